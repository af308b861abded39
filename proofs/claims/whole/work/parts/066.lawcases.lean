theorem lg_cmp_same {x y : Int64} (h : x = y) : lg_cmp x y = 0 := by subst h; simp [lg_cmp]
theorem nI_c (i c : Nat) : nI i + nI c = nI (i + c) := nI_add i c
section GBool
variable {K : Type} {X : rX} {R : K → Heap → Prop} {A : Nat → Prop} {Q : State → Prop} {nL : Nat} {cc : ByteArray} {pc : Nat} {lo : List (Option Value)} {st : List Value} {w : K} {kc ks : Nat}
theorem ga_widen {k n : Nat} (h1 : kc ≤ k) (h2 : ks ≤ n) (kk : gAW X R A Q nL pc lo st w k n) : gAW X R A Q nL pc lo st w kc ks := fun H locs ls q1 q2 q3 => W.widen h1 h2 (kk H locs ls q1 q2 q3)
theorem ga_bool (C : gC X nL cc) {x : Int32} {o1 o2 : Int} {t1 t2 : Nat} (d1 : decode cc pc = .ok (.ifCond .eq o1, 3)) (e1 : (pc : Int) + o1 = (t1 : Int)) (d2 : decode cc (pc + 3) = .ok (.iconst 1, 1)) (d3 : decode cc (pc + 4) = .ok (.goto o2, 3)) (e2 : ((pc + 4 : Nat) : Int) + o2 = (t2 : Int)) (d4 : decode cc t1 = .ok (.iconst 0, 1)) (e3 : t1 + 1 = t2) (k : gAW X R A Q nL t2 lo (.int (if x = 0 then 0 else 1) :: st) w kc ks) : gAW X R A Q nL pc lo (.int x :: st) w kc ks := by
  refine ga_if_eq C d1 e1 (fun c => ?_) (fun c => ?_)
  · rw [if_pos c] at k
    refine ga_iconst C d4 (v := 0) (by decide) ?_
    rw [e3]
    exact k
  · rw [if_neg c] at k
    refine ga_iconst C d2 (v := 1) (by decide) ?_
    exact ga_goto C d3 e2 k
theorem ga_boolL (C : gC X nL cc) {x : Int32} {o1 o2 : Int} {t1 t2 : Nat} (d1 : decode cc pc = .ok (.ifCond .eq o1, 3)) (e1 : (pc : Int) + o1 = (t1 : Int)) (d2 : decode cc (pc + 3) = .ok (.lconst 1, 1)) (d3 : decode cc (pc + 4) = .ok (.goto o2, 3)) (e2 : ((pc + 4 : Nat) : Int) + o2 = (t2 : Int)) (d4 : decode cc t1 = .ok (.lconst 0, 1)) (e3 : t1 + 1 = t2) (k : gAW X R A Q nL t2 lo (.long (if x = 0 then 0 else 1) :: st) w kc ks) : gAW X R A Q nL pc lo (.int x :: st) w kc ks := by
  refine ga_if_eq C d1 e1 (fun c => ?_) (fun c => ?_)
  · rw [if_pos c] at k
    refine ga_lconst C d4 (v := 0) (by decide) ?_
    rw [e3]
    exact k
  · rw [if_neg c] at k
    refine ga_lconst C d2 (v := 1) (by decide) ?_
    exact ga_goto C d3 e2 k
end GBool
def sim_arrow (o : Nat) (Inv Inv2 : cS → rS → Prop) : Prop := ∀ (z : cS) (S : rS) (p0 : Int32) (p1 : Int32), Inv z S → ∃ P : Int32 ⊕ Nat → cS → Prop, cSpec (fX6_arrow o p0 p1) z 100 14000 P ∧ (∀ e z2, P (.inr e) z2 → e = 0 ∨ e = 2) ∧ ∃ v S1, fX7_arrow p0 p1 S = some (v, S1) ∧ (∀ w z2, P (.inl w) z2 → S1.1 54 = 0 ∧ w = v ∧ Inv2 z2 S1) ∧ ∀ e z2, P (.inr e) z2 → S1.1 54 = (if e = 0 then 1 else (if e = 2 then 2 else 0)) ∧ Inv2 z2 S1
def sim_type (o : Nat) (Inv Inv2 : cS → rS → Prop) : Prop := ∀ (z : cS) (S : rS) (p0 : Int32) (p1 : Int32), Inv z S → ∃ P : Int32 ⊕ Nat → cS → Prop, cSpec (fX6_type o p0 p1) z 100 14000 P ∧ (∀ e z2, P (.inr e) z2 → e = 0 ∨ e = 1) ∧ ∃ v S1, fX7_type p0 p1 S = some (v, S1) ∧ (∀ w z2, P (.inl w) z2 → S1.1 54 = 0 ∧ w = v ∧ Inv2 z2 S1) ∧ ∀ e z2, P (.inr e) z2 → S1.1 54 = (if e = 0 then 1 else (if e = 1 then 2 else 0)) ∧ Inv2 z2 S1
def sim_addType (o : Nat) (Inv Inv2 : cS → rS → Prop) : Prop := ∀ (z : cS) (S : rS) (p0 : Int32) (p1 : Int32), Inv z S → ∃ P : Int32 ⊕ Nat → cS → Prop, cSpec (fX6_addType o p0 p1) z 100 14000 P ∧ (∀ e z2, P (.inr e) z2 → e = 0 ∨ e = 1 ∨ e = 2) ∧ ∃ v S1, fX7_addType p0 p1 S = some (v, S1) ∧ (∀ w z2, P (.inl w) z2 → S1.1 54 = 0 ∧ w = v ∧ Inv2 z2 S1) ∧ ∀ e z2, P (.inr e) z2 → S1.1 54 = (if e = 0 then 1 else (if e = 1 then 2 else (if e = 2 then 3 else 0))) ∧ Inv2 z2 S1
def sim_addValue (o : Nat) (Inv Inv2 : cS → rS → Prop) : Prop := ∀ (z : cS) (S : rS) (p0 : Int32) (p1 : Int32) (p2 : Int32), Inv z S → ∃ P : Int32 ⊕ Nat → cS → Prop, cSpec (fX6_addValue o p0 p1 p2) z 100 14000 P ∧ (∀ e z2, P (.inr e) z2 → e = 0 ∨ e = 1) ∧ ∃ v S1, fX7_addValue p0 p1 p2 S = some (v, S1) ∧ (∀ w z2, P (.inl w) z2 → S1.1 54 = 0 ∧ w = v ∧ Inv2 z2 S1) ∧ ∀ e z2, P (.inr e) z2 → S1.1 54 = (if e = 0 then 1 else (if e = 1 then 2 else 0)) ∧ Inv2 z2 S1
def sim_addPart (o : Nat) (Inv Inv2 : cS → rS → Prop) : Prop := ∀ (z : cS) (S : rS) (p0 : Int32) (p1 : Int32), Inv z S → ∃ P : Int32 ⊕ Nat → cS → Prop, cSpec (fX6_addPart o p0 p1) z 100 14000 P ∧ (∀ e z2, P (.inr e) z2 → e = 0 ∨ e = 1) ∧ ∃ v S1, fX7_addPart p0 p1 S = some (v, S1) ∧ (∀ w z2, P (.inl w) z2 → S1.1 54 = 0 ∧ w = v ∧ Inv2 z2 S1) ∧ ∀ e z2, P (.inr e) z2 → S1.1 54 = (if e = 0 then 1 else (if e = 1 then 2 else 0)) ∧ Inv2 z2 S1
def sim_open (o : Nat) (Inv Inv2 : cS → rS → Prop) : Prop := ∀ (z : cS) (S : rS) (p0 : Int32), Inv z S → ∃ P : Int32 ⊕ Nat → cS → Prop, cSpec (fX6_open o p0) z 100 14000 P ∧ (∀ e z2, P (.inr e) z2 → e = 0) ∧ ∃ v S1, fX7_open p0 S = some (v, S1) ∧ (∀ w z2, P (.inl w) z2 → S1.1 54 = 0 ∧ w = v ∧ Inv2 z2 S1) ∧ ∀ e z2, P (.inr e) z2 → S1.1 54 = (if e = 0 then 1 else 0) ∧ Inv2 z2 S1
def sim_structure (o : Nat) (Inv Inv2 : cS → rS → Prop) : Prop := ∀ (z : cS) (S : rS), Inv z S → ∃ P : Int32 ⊕ Nat → cS → Prop, cSpec (fX6_structure o) z 100 14000 P ∧ (∀ e z2, P (.inr e) z2 → e = 2) ∧ ∃ v S1, fX7_structure S = some (v, S1) ∧ (∀ w z2, P (.inl w) z2 → S1.1 54 = 0 ∧ w = v ∧ Inv2 z2 S1) ∧ ∀ e z2, P (.inr e) z2 → S1.1 54 = (if e = 2 then 1 else 0) ∧ Inv2 z2 S1
def sim_item (o : Nat) (Inv Inv2 : cS → rS → Prop) : Prop := ∀ (z : cS) (S : rS) (p0 : Int32) (p1 : Int32) (p2 : Int32) (p3 : Int32), Inv z S → ∃ P : Int32 ⊕ Nat → cS → Prop, cSpec (fX6_item o p0 p1 p2 p3) z 100 14000 P ∧ (∀ e z2, P (.inr e) z2 → e = 0 ∨ e = 1) ∧ ∃ v S1, fX7_item p0 p1 p2 p3 S = some (v, S1) ∧ (∀ w z2, P (.inl w) z2 → S1.1 54 = 0 ∧ w = v ∧ Inv2 z2 S1) ∧ ∀ e z2, P (.inr e) z2 → S1.1 54 = (if e = 0 then 1 else (if e = 1 then 2 else 0)) ∧ Inv2 z2 S1
def sim_items (o : Nat) (Inv Inv2 : cS → rS → Prop) : Prop := ∀ (z : cS) (S : rS) (p0 : Int32), Inv z S → ∃ P : Int32 ⊕ Nat → cS → Prop, cSpec (fX6_items o p0) z 100 14000 P ∧ (∀ e z2, P (.inr e) z2 → e = 0) ∧ ∃ v S1, fX7_items p0 S = some (v, S1) ∧ (∀ w z2, P (.inl w) z2 → S1.1 54 = 0 ∧ w = v ∧ Inv2 z2 S1) ∧ ∀ e z2, P (.inr e) z2 → S1.1 54 = (if e = 0 then 1 else 0) ∧ Inv2 z2 S1
def sim_specType (o : Nat) (Inv Inv2 : cS → rS → Prop) : Prop := ∀ (z : cS) (S : rS) (p0 : Int32) (p1 : Int32), Inv z S → ∃ P : Int32 ⊕ Nat → cS → Prop, cSpec (fX6_specType o p0 p1) z 100 14000 P ∧ (∀ e z2, P (.inr e) z2 → e = 0 ∨ e = 1 ∨ e = 2) ∧ ∃ v S1, fX7_specType p0 p1 S = some (v, S1) ∧ (∀ w z2, P (.inl w) z2 → S1.1 54 = 0 ∧ w = v ∧ Inv2 z2 S1) ∧ ∀ e z2, P (.inr e) z2 → S1.1 54 = (if e = 0 then 1 else (if e = 1 then 2 else (if e = 2 then 3 else 0))) ∧ Inv2 z2 S1
def sim_specValue (o : Nat) (Inv Inv2 : cS → rS → Prop) : Prop := ∀ (z : cS) (S : rS) (p0 : Int32) (p1 : Int32) (p2 : Int32), Inv z S → ∃ P : Int32 ⊕ Nat → cS → Prop, cSpec (fX6_specValue o p0 p1 p2) z 100 14000 P ∧ (∀ e z2, P (.inr e) z2 → e = 0 ∨ e = 1 ∨ e = 2) ∧ ∃ v S1, fX7_specValue p0 p1 p2 S = some (v, S1) ∧ (∀ w z2, P (.inl w) z2 → S1.1 54 = 0 ∧ w = v ∧ Inv2 z2 S1) ∧ ∀ e z2, P (.inr e) z2 → S1.1 54 = (if e = 0 then 1 else (if e = 1 then 2 else (if e = 2 then 3 else 0))) ∧ Inv2 z2 S1
def sim_specPart (o : Nat) (Inv Inv2 : cS → rS → Prop) : Prop := ∀ (z : cS) (S : rS) (p0 : Int32) (p1 : Int32), Inv z S → ∃ P : Int32 ⊕ Nat → cS → Prop, cSpec (fX6_specPart o p0 p1) z 100 14000 P ∧ (∀ e z2, P (.inr e) z2 → e = 0 ∨ e = 1 ∨ e = 2) ∧ ∃ v S1, fX7_specPart p0 p1 S = some (v, S1) ∧ (∀ w z2, P (.inl w) z2 → S1.1 54 = 0 ∧ w = v ∧ Inv2 z2 S1) ∧ ∀ e z2, P (.inr e) z2 → S1.1 54 = (if e = 0 then 1 else (if e = 1 then 2 else (if e = 2 then 3 else 0))) ∧ Inv2 z2 S1
def sim_include (o : Nat) (Inv Inv2 : cS → rS → Prop) : Prop := ∀ (z : cS) (S : rS) (p0 : Int32), Inv z S → ∃ P : Int32 ⊕ Nat → cS → Prop, cSpec (fX6_include o p0) z 100 14000 P ∧ (∀ e z2, P (.inr e) z2 → e = 0 ∨ e = 2) ∧ ∃ v S1, fX7_include p0 S = some (v, S1) ∧ (∀ w z2, P (.inl w) z2 → S1.1 54 = 0 ∧ w = v ∧ Inv2 z2 S1) ∧ ∀ e z2, P (.inr e) z2 → S1.1 54 = (if e = 0 then 1 else (if e = 2 then 2 else 0)) ∧ Inv2 z2 S1
def sim_signature (o : Nat) (Inv Inv2 : cS → rS → Prop) : Prop := ∀ (z : cS) (S : rS), Inv z S → ∃ P : Int32 ⊕ Nat → cS → Prop, cSpec (fX6_signature o) z 100 14000 P ∧ (∀ e z2, P (.inr e) z2 → e = 2) ∧ ∃ v S1, fX7_signature S = some (v, S1) ∧ (∀ w z2, P (.inl w) z2 → S1.1 54 = 0 ∧ w = v ∧ Inv2 z2 S1) ∧ ∀ e z2, P (.inr e) z2 → S1.1 54 = (if e = 2 then 1 else 0) ∧ Inv2 z2 S1
def sim_with (o : Nat) (Inv Inv2 : cS → rS → Prop) : Prop := ∀ (z : cS) (S : rS) (p0 : Int32) (p1 : Int32) (p2 : Int32) (p3 : Int32) (_ : p3 = 0 ∨ p3 = 1), Inv z S → ∃ P : Int32 ⊕ Nat → cS → Prop, cSpec (fX6_with o p0 p1 p2 p3) z 100 14000 P ∧ (∀ e z2, P (.inr e) z2 → e = 0 ∨ e = 2) ∧ ∃ v S1, fX7_with p0 p1 p2 p3 S = some (v, S1) ∧ (∀ w z2, P (.inl w) z2 → S1.1 54 = 0 ∧ w = v ∧ Inv2 z2 S1) ∧ ∀ e z2, P (.inr e) z2 → S1.1 54 = (if e = 0 then 1 else (if e = 2 then 2 else 0)) ∧ Inv2 z2 S1
def sim_specs (o : Nat) (Inv Inv2 : cS → rS → Prop) : Prop := ∀ (z : cS) (S : rS) (p0 : Int32), Inv z S → ∃ P : Int32 ⊕ Nat → cS → Prop, cSpec (fX6_specs o p0) z 100 14000 P ∧ (∀ e z2, P (.inr e) z2 → e = 0) ∧ ∃ v S1, fX7_specs p0 S = some (v, S1) ∧ (∀ w z2, P (.inl w) z2 → S1.1 54 = 0 ∧ w = v ∧ Inv2 z2 S1) ∧ ∀ e z2, P (.inr e) z2 → S1.1 54 = (if e = 0 then 1 else 0) ∧ Inv2 z2 S1
def sim_match (o : Nat) (Inv Inv2 : cS → rS → Prop) : Prop := ∀ (z : cS) (S : rS) (p0 : Int32) (p1 : Int32), Inv z S → ∃ P : Int32 ⊕ Nat → cS → Prop, cSpec (fX6_match o p0 p1) z 100 14000 P ∧ (∀ e z2, P (.inr e) z2 → e = 0) ∧ ∃ v S1, fX7_match p0 p1 S = some (v, S1) ∧ (∀ w z2, P (.inl w) z2 → S1.1 54 = 0 ∧ w = v ∧ Inv2 z2 S1) ∧ ∀ e z2, P (.inr e) z2 → S1.1 54 = (if e = 0 then 1 else 0) ∧ Inv2 z2 S1
def sim_seal (o : Nat) (Inv Inv2 : cS → rS → Prop) : Prop := ∀ (z : cS) (S : rS) (p0 : Int32) (p1 : Int32), Inv z S → ∃ P : Int32 ⊕ Nat → cS → Prop, cSpec (fX6_seal o p0 p1) z 100 14000 P ∧ (∀ e z2, P (.inr e) z2 → e = 0 ∨ e = 2) ∧ ∃ v S1, fX7_seal p0 p1 S = some (v, S1) ∧ (∀ w z2, P (.inl w) z2 → S1.1 54 = 0 ∧ w = v ∧ Inv2 z2 S1) ∧ ∀ e z2, P (.inr e) z2 → S1.1 54 = (if e = 0 then 1 else (if e = 2 then 2 else 0)) ∧ Inv2 z2 S1
def sim_view (o : Nat) (Inv Inv2 : cS → rS → Prop) : Prop := ∀ (z : cS) (S : rS) (p0 : Int32) (p1 : Int32), Inv z S → ∃ P : Int32 ⊕ Nat → cS → Prop, cSpec (fX6_view o p0 p1) z 100 14000 P ∧ (∀ e z2, P (.inr e) z2 → e = 0 ∨ e = 2) ∧ ∃ v S1, fX7_view p0 p1 S = some (v, S1) ∧ (∀ w z2, P (.inl w) z2 → S1.1 54 = 0 ∧ w = v ∧ Inv2 z2 S1) ∧ ∀ e z2, P (.inr e) z2 → S1.1 54 = (if e = 0 then 1 else (if e = 2 then 2 else 0)) ∧ Inv2 z2 S1
def sim_finer (o : Nat) (Inv Inv2 : cS → rS → Prop) : Prop := ∀ (z : cS) (S : rS) (p0 : Int32) (p1 : Int32), Inv z S → ∃ P : Int32 ⊕ Nat → cS → Prop, cSpec (fX6_finer o p0 p1) z 100 14000 P ∧ (∀ e z2, P (.inr e) z2 → e = 0) ∧ ∃ v S1, fX7_finer p0 p1 S = some (v, S1) ∧ (∀ w z2, P (.inl w) z2 → S1.1 54 = 0 ∧ w = v ∧ Inv2 z2 S1) ∧ ∀ e z2, P (.inr e) z2 → S1.1 54 = (if e = 0 then 1 else 0) ∧ Inv2 z2 S1
def sim_alike (o : Nat) (Inv Inv2 : cS → rS → Prop) : Prop := ∀ (z : cS) (S : rS) (p0 : Int32) (p1 : Int32), Inv z S → ∃ P : Int32 ⊕ Nat → cS → Prop, cSpec (fX6_alike o p0 p1) z 100 14000 P ∧ (∀ e z2, P (.inr e) z2 → e = 0) ∧ ∃ v S1, fX7_alike p0 p1 S = some (v, S1) ∧ (∀ w z2, P (.inl w) z2 → S1.1 54 = 0 ∧ w = v ∧ Inv2 z2 S1) ∧ ∀ e z2, P (.inr e) z2 → S1.1 54 = (if e = 0 then 1 else 0) ∧ Inv2 z2 S1
def sim_bodyType (o : Nat) (Inv Inv2 : cS → rS → Prop) : Prop := ∀ (z : cS) (S : rS) (p0 : Int32) (p1 : Int32), Inv z S → ∃ P : Int32 ⊕ Nat → cS → Prop, cSpec (fX6_bodyType o p0 p1) z 100 14000 P ∧ (∀ e z2, P (.inr e) z2 → e = 1 ∨ e = 2) ∧ ∃ v S1, fX7_bodyType p0 p1 S = some (v, S1) ∧ (∀ w z2, P (.inl w) z2 → S1.1 54 = 0 ∧ w = v ∧ Inv2 z2 S1) ∧ ∀ e z2, P (.inr e) z2 → S1.1 54 = (if e = 1 then 1 else (if e = 2 then 2 else 0)) ∧ Inv2 z2 S1
def sim_bodyValue (o : Nat) (Inv Inv2 : cS → rS → Prop) : Prop := ∀ (z : cS) (S : rS) (p0 : Int32) (p1 : Int32) (p2 : Int32) (p3 : Int32) (p4 : Int32), Inv z S → ∃ P : Int32 ⊕ Nat → cS → Prop, cSpec (fX6_bodyValue o p0 p1 p2 p3 p4) z 100 14000 P ∧ (∀ e z2, P (.inr e) z2 → e = 0 ∨ e = 1 ∨ e = 2) ∧ ∃ v S1, fX7_bodyValue p0 p1 p2 p3 p4 S = some (v, S1) ∧ (∀ w z2, P (.inl w) z2 → S1.1 54 = 0 ∧ w = v ∧ Inv2 z2 S1) ∧ ∀ e z2, P (.inr e) z2 → S1.1 54 = (if e = 0 then 1 else (if e = 1 then 2 else (if e = 2 then 3 else 0))) ∧ Inv2 z2 S1
def sim_functor (o : Nat) (Inv Inv2 : cS → rS → Prop) : Prop := ∀ (z : cS) (S : rS) (p0 : Int32) (p1 : Int32) (p2 : Int32) (_ : p2 = 0 ∨ p2 = 1), Inv z S → ∃ P : Int32 ⊕ Nat → cS → Prop, cSpec (fX6_functor o p0 p1 p2) z 100 14000 P ∧ (∀ e z2, P (.inr e) z2 → e = 0 ∨ e = 2) ∧ ∃ v S1, fX7_functor p0 p1 p2 S = some (v, S1) ∧ (∀ w z2, P (.inl w) z2 → S1.1 54 = 0 ∧ w = v ∧ Inv2 z2 S1) ∧ ∀ e z2, P (.inr e) z2 → S1.1 54 = (if e = 0 then 1 else (if e = 2 then 2 else 0)) ∧ Inv2 z2 S1
def sim_apply (o : Nat) (Inv Inv2 : cS → rS → Prop) : Prop := ∀ (z : cS) (S : rS) (p0 : Int32) (p1 : Int32), Inv z S → ∃ P : Int32 ⊕ Nat → cS → Prop, cSpec (fX6_apply o p0 p1) z 100 14000 P ∧ (∀ e z2, P (.inr e) z2 → e = 0 ∨ e = 2) ∧ ∃ v S1, fX7_apply p0 p1 S = some (v, S1) ∧ (∀ w z2, P (.inl w) z2 → S1.1 54 = 0 ∧ w = v ∧ Inv2 z2 S1) ∧ ∀ e z2, P (.inr e) z2 → S1.1 54 = (if e = 0 then 1 else (if e = 2 then 2 else 0)) ∧ Inv2 z2 S1
def sim_pack (o : Nat) (Inv Inv2 : cS → rS → Prop) : Prop := ∀ (z : cS) (S : rS) (p0 : Int32) (p1 : Int32), Inv z S → ∃ P : Int32 ⊕ Nat → cS → Prop, cSpec (fX6_pack o p0 p1) z 100 14000 P ∧ (∀ e z2, P (.inr e) z2 → e = 0 ∨ e = 2) ∧ ∃ v S1, fX7_pack p0 p1 S = some (v, S1) ∧ (∀ w z2, P (.inl w) z2 → S1.1 54 = 0 ∧ w = v ∧ Inv2 z2 S1) ∧ ∀ e z2, P (.inr e) z2 → S1.1 54 = (if e = 0 then 1 else (if e = 2 then 2 else 0)) ∧ Inv2 z2 S1
def sim_unpack (o : Nat) (Inv Inv2 : cS → rS → Prop) : Prop := ∀ (z : cS) (S : rS) (p0 : Int32), Inv z S → ∃ P : Int32 ⊕ Nat → cS → Prop, cSpec (fX6_unpack o p0) z 100 14000 P ∧ (∀ e z2, P (.inr e) z2 → e = 0 ∨ e = 2) ∧ ∃ v S1, fX7_unpack p0 S = some (v, S1) ∧ (∀ w z2, P (.inl w) z2 → S1.1 54 = 0 ∧ w = v ∧ Inv2 z2 S1) ∧ ∀ e z2, P (.inr e) z2 → S1.1 54 = (if e = 0 then 1 else (if e = 2 then 2 else 0)) ∧ Inv2 z2 S1
def sim_unit (o : Nat) (Inv Inv2 : cS → rS → Prop) : Prop := ∀ (z : cS) (S : rS) (p0 : Int32) (p1 : Int32) (p2 : Int32) (_ : p2 = 0 ∨ p2 = 1), Inv z S → ∃ P : Int32 ⊕ Nat → cS → Prop, cSpec (fX6_unit o p0 p1 p2) z 100 14000 P ∧ (∀ e z2, P (.inr e) z2 → e = 0 ∨ e = 2) ∧ ∃ v S1, fX7_unit p0 p1 p2 S = some (v, S1) ∧ (∀ w z2, P (.inl w) z2 → S1.1 54 = 0 ∧ w = v ∧ Inv2 z2 S1) ∧ ∀ e z2, P (.inr e) z2 → S1.1 54 = (if e = 0 then 1 else (if e = 2 then 2 else 0)) ∧ Inv2 z2 S1
def sim_change (o : Nat) (Inv Inv2 : cS → rS → Prop) : Prop := ∀ (z : cS) (S : rS) (p0 : Int32) (p1 : Int32), Inv z S → ∃ P : Int32 ⊕ Nat → cS → Prop, cSpec (fX6_change o p0 p1) z 100 14000 P ∧ (∀ e z2, P (.inr e) z2 → e = 0) ∧ ∃ v S1, fX7_change p0 p1 S = some (v, S1) ∧ (∀ w z2, P (.inl w) z2 → S1.1 54 = 0 ∧ w = v ∧ Inv2 z2 S1) ∧ ∀ e z2, P (.inr e) z2 → S1.1 54 = (if e = 0 then 1 else 0) ∧ Inv2 z2 S1
def sim_stale (o : Nat) (Inv Inv2 : cS → rS → Prop) : Prop := ∀ (z : cS) (S : rS), Inv z S → ∃ P : Int32 → cS → Prop, pSpec (fX6_stale o) z P ∧ ∃ v S1, fX7_stale S = some (v, S1) ∧ ∀ w z2, P w z2 → w = v ∧ Inv2 z2 S1
def sim_build (o : Nat) (Inv Inv2 : cS → rS → Prop) : Prop := ∀ (z : cS) (S : rS), Inv z S → ∃ P : Int32 → cS → Prop, pSpec (fX6_build o) z P ∧ ∃ v S1, fX7_build S = some (v, S1) ∧ ∀ w z2, P w z2 → w = v ∧ Inv2 z2 S1
set_option maxRecDepth 100000 in
set_option maxHeartbeats 4000000 in
theorem lcase_arrow {g : wG} {Gr : rG} {X : rX} {b L : Nat} {xs : Nat → Int32} {Q : State → Prop} {o i : Nat} {Inv Inv2 : cS → rS → Prop} {z : cS} {S : rS} {f : Nat → Int64} {kc ks : Nat} (C : lC g Gr X b L xs) (hin : ∀ c : Nat, c < 6 → vp_in (nI i + nI c) L) (hI : Inv z S) (hO : ∀ z S, Inv z S → ∃ n, z.1 o = some (6, n)) (hsim : sim_arrow o Inv Inv2) (hk : kc + 100 ≤ 601024) (hs : ks + 14000 ≤ 7293034)
    (hend : ∀ z' S' f' k5 k6, Inv2 z' S' → gAW X (lR g Gr X.2.2.2.2.1.heap.size) (lA X.2.2.2.2.1.heap.size) Q 7 2278 [some (.ref b), some (.ref o), some (.ref Gr.2.2.2.1), some (.ref g.2.1), some (.int (nI i)), k5, k6] [] (z', S', f') (kc + 100) (ks + 14000)) : gAW X (lR g Gr X.2.2.2.2.1.heap.size) (lA X.2.2.2.2.1.heap.size) Q 7 180 [some (.ref b), some (.ref o), some (.ref Gr.2.2.2.1), some (.ref g.2.1), some (.int (nI i)), none, none] [] (z, S, f) kc ks := by
  obtain ⟨n0, hq⟩ := hO z S hI
  refine ga_aload_n C.1 dL_law_180 rfl rfl ?_
  refine ga_aload_n C.1 dL_law_181 rfl rfl ?_
  refine ga_iload C.1 dL_law_182 rfl ?_
  refine ga_iconst C.1 dL_law_184 (v := 1) (by decide) ?_
  refine ga_iadd C.1 dL_law_185 ?_
  refine la_sld C dL_law_186 (hin 1 (by decide)) ?_
  refine ga_aload_n C.1 dL_law_187 rfl rfl ?_
  refine ga_iload C.1 dL_law_188 rfl ?_
  refine ga_iconst C.1 dL_law_190 (v := 2) (by decide) ?_
  refine ga_iadd C.1 dL_law_191 ?_
  refine la_sld C dL_law_192 (hin 2 (by decide)) ?_
  obtain ⟨P, hsp, hE, v, S1, hv, hl, hr⟩ := hsim z S (xs (nI i + 1).toNatClampNeg) (xs (nI i + 2).toNatClampNeg) hI
  refine ga_aload_n C.1 dL_law_193 rfl rfl ?_
  refine la_callW C dL_law_194 (fun sz => wM_arrow (C.2.2.2.2.2.2.2.2.2.2.2.2.1) hq hsp hE) rfl lL_116 lT_L_arrow tL_init lC_L_arrow lH_L_arrow (by decide) (by decide) (Nat.le_of_ble_eq_true rfl) hk hs (fun k w2 hF => ?_)
  refine ga_istore C.1 dL_law_197 (by decide) ?_
  refine ga_aload_n C.1 dL_law_199 rfl rfl ?_
  refine ga_aload_n C.1 dL_law_200 rfl rfl ?_
  refine ga_iload C.1 dL_law_201 rfl ?_
  refine ga_iconst C.1 dL_law_203 (v := 1) (by decide) ?_
  refine ga_iadd C.1 dL_law_204 ?_
  refine la_sld C dL_law_205 (hin 1 (by decide)) ?_
  refine ga_aload_n C.1 dL_law_206 rfl rfl ?_
  refine ga_iload C.1 dL_law_207 rfl ?_
  refine ga_iconst C.1 dL_law_209 (v := 2) (by decide) ?_
  refine ga_iadd C.1 dL_law_210 ?_
  refine la_sld C dL_law_211 (hin 2 (by decide)) ?_
  refine la_callR C dL_law_212 (mX7_arrow hv) rfl lL_121 lI_X7_arrow lS_X7_arrow tX7_init lC_X7_arrow lH_X7_arrow (by decide) (by decide) (Nat.le_of_ble_eq_true rfl) (by omega) (by omega) ?_
  refine ga_istore C.1 dL_law_215 (by decide) ?_
  refine ga_aload_n C.1 dL_law_217 rfl rfl ?_
  refine la_callR C dL_law_218 (mX7_thrown (r := (S1.1 54, S1)) rfl) rfl lL_122 lI_X7_thrown lS_X7_thrown tX7_init lC_X7_thrown lH_X7_thrown (by decide) (by decide) (Nat.le_of_ble_eq_true rfl) (by omega) (by omega) ?_
  refine ga_iload C.1 dL_law_221 rfl ?_
  have hkk : S1.1 54 = k ∧ Inv2 w2.1 S1 ∧ (k = 0 → w2.2 0 = v.toInt64) := by
    rcases hF with ⟨w, hP, rfl, ho⟩ | ⟨e, hP, rfl⟩
    · obtain ⟨q1, rfl, q3⟩ := hl w _ hP; exact ⟨q1, q3, fun _ => ho⟩
    · obtain ⟨q1, q2⟩ := hr e _ hP; refine ⟨q1, q2, fun h => ?_⟩; rcases hE e _ hP with rfl | rfl <;> exact absurd h (by decide)
  obtain ⟨hk1, hk2, hk3⟩ := hkk
  refine ga_icmp_eq C.1 dL_law_223 (tgt := 228) (by decide) (fun c1 => ?_) (fun c1 => absurd hk1 c1)
  refine ga_iload C.1 dL_law_228 rfl ?_
  refine ga_if_ne C.1 dL_law_230 (tgt := 245) (by decide) (fun c2 => ?_) (fun c2 => ?_)
  · refine ga_goto C.1 dL_law_245 (tgt := 2278) (by decide) ?_
    exact hend _ _ _ _ _ hk2
  · refine ga_aload_n C.1 dL_law_233 rfl rfl ?_
    refine ga_iconst C.1 dL_law_234 (v := 0) (by decide) ?_
    refine la_lald C dL_law_235 ?_
    refine ga_iload C.1 dL_law_236 rfl ?_
    refine ga_i2l C.1 dL_law_238 ?_
    refine ga_lcmp C.1 dL_law_239 ?_
    refine ga_if_eq C.1 dL_law_240 (tgt := 245) (by decide) (fun c3 => ?_) (fun c3 => absurd (lg_cmp_same (hk3 c2)) c3)
    refine ga_goto C.1 dL_law_245 (tgt := 2278) (by decide) ?_
    exact hend _ _ _ _ _ hk2
set_option maxRecDepth 100000 in
set_option maxHeartbeats 4000000 in
theorem lcase_type {g : wG} {Gr : rG} {X : rX} {b L : Nat} {xs : Nat → Int32} {Q : State → Prop} {o i : Nat} {Inv Inv2 : cS → rS → Prop} {z : cS} {S : rS} {f : Nat → Int64} {kc ks : Nat} (C : lC g Gr X b L xs) (hin : ∀ c : Nat, c < 6 → vp_in (nI i + nI c) L) (hI : Inv z S) (hO : ∀ z S, Inv z S → ∃ n, z.1 o = some (6, n)) (hsim : sim_type o Inv Inv2) (hk : kc + 100 ≤ 601024) (hs : ks + 14000 ≤ 7293034)
    (hend : ∀ z' S' f' k5 k6, Inv2 z' S' → gAW X (lR g Gr X.2.2.2.2.1.heap.size) (lA X.2.2.2.2.1.heap.size) Q 7 2278 [some (.ref b), some (.ref o), some (.ref Gr.2.2.2.1), some (.ref g.2.1), some (.int (nI i)), k5, k6] [] (z', S', f') (kc + 100) (ks + 14000)) : gAW X (lR g Gr X.2.2.2.2.1.heap.size) (lA X.2.2.2.2.1.heap.size) Q 7 248 [some (.ref b), some (.ref o), some (.ref Gr.2.2.2.1), some (.ref g.2.1), some (.int (nI i)), none, none] [] (z, S, f) kc ks := by
  obtain ⟨n0, hq⟩ := hO z S hI
  refine ga_aload_n C.1 dL_law_248 rfl rfl ?_
  refine ga_aload_n C.1 dL_law_249 rfl rfl ?_
  refine ga_iload C.1 dL_law_250 rfl ?_
  refine ga_iconst C.1 dL_law_252 (v := 1) (by decide) ?_
  refine ga_iadd C.1 dL_law_253 ?_
  refine la_sld C dL_law_254 (hin 1 (by decide)) ?_
  refine ga_aload_n C.1 dL_law_255 rfl rfl ?_
  refine ga_iload C.1 dL_law_256 rfl ?_
  refine ga_iconst C.1 dL_law_258 (v := 2) (by decide) ?_
  refine ga_iadd C.1 dL_law_259 ?_
  refine la_sld C dL_law_260 (hin 2 (by decide)) ?_
  obtain ⟨P, hsp, hE, v, S1, hv, hl, hr⟩ := hsim z S (xs (nI i + 1).toNatClampNeg) (xs (nI i + 2).toNatClampNeg) hI
  refine ga_aload_n C.1 dL_law_261 rfl rfl ?_
  refine la_callW C dL_law_262 (fun sz => wM_type (C.2.2.2.2.2.2.2.2.2.2.2.2.1) hq hsp hE) rfl lL_125 lT_L_type tL_init lC_L_type lH_L_type (by decide) (by decide) (Nat.le_of_ble_eq_true rfl) hk hs (fun k w2 hF => ?_)
  refine ga_istore C.1 dL_law_265 (by decide) ?_
  refine ga_aload_n C.1 dL_law_267 rfl rfl ?_
  refine ga_aload_n C.1 dL_law_268 rfl rfl ?_
  refine ga_iload C.1 dL_law_269 rfl ?_
  refine ga_iconst C.1 dL_law_271 (v := 1) (by decide) ?_
  refine ga_iadd C.1 dL_law_272 ?_
  refine la_sld C dL_law_273 (hin 1 (by decide)) ?_
  refine ga_aload_n C.1 dL_law_274 rfl rfl ?_
  refine ga_iload C.1 dL_law_275 rfl ?_
  refine ga_iconst C.1 dL_law_277 (v := 2) (by decide) ?_
  refine ga_iadd C.1 dL_law_278 ?_
  refine la_sld C dL_law_279 (hin 2 (by decide)) ?_
  refine la_callR C dL_law_280 (mX7_type hv) rfl lL_127 lI_X7_type lS_X7_type tX7_init lC_X7_type lH_X7_type (by decide) (by decide) (Nat.le_of_ble_eq_true rfl) (by omega) (by omega) ?_
  refine ga_istore C.1 dL_law_283 (by decide) ?_
  refine ga_aload_n C.1 dL_law_285 rfl rfl ?_
  refine la_callR C dL_law_286 (mX7_thrown (r := (S1.1 54, S1)) rfl) rfl lL_122 lI_X7_thrown lS_X7_thrown tX7_init lC_X7_thrown lH_X7_thrown (by decide) (by decide) (Nat.le_of_ble_eq_true rfl) (by omega) (by omega) ?_
  refine ga_iload C.1 dL_law_289 rfl ?_
  have hkk : S1.1 54 = k ∧ Inv2 w2.1 S1 ∧ (k = 0 → w2.2 0 = v.toInt64) := by
    rcases hF with ⟨w, hP, rfl, ho⟩ | ⟨e, hP, rfl⟩
    · obtain ⟨q1, rfl, q3⟩ := hl w _ hP; exact ⟨q1, q3, fun _ => ho⟩
    · obtain ⟨q1, q2⟩ := hr e _ hP; refine ⟨q1, q2, fun h => ?_⟩; rcases hE e _ hP with rfl | rfl <;> exact absurd h (by decide)
  obtain ⟨hk1, hk2, hk3⟩ := hkk
  refine ga_icmp_eq C.1 dL_law_291 (tgt := 296) (by decide) (fun c1 => ?_) (fun c1 => absurd hk1 c1)
  refine ga_iload C.1 dL_law_296 rfl ?_
  refine ga_if_ne C.1 dL_law_298 (tgt := 313) (by decide) (fun c2 => ?_) (fun c2 => ?_)
  · refine ga_goto C.1 dL_law_313 (tgt := 2278) (by decide) ?_
    exact hend _ _ _ _ _ hk2
  · refine ga_aload_n C.1 dL_law_301 rfl rfl ?_
    refine ga_iconst C.1 dL_law_302 (v := 0) (by decide) ?_
    refine la_lald C dL_law_303 ?_
    refine ga_iload C.1 dL_law_304 rfl ?_
    refine ga_i2l C.1 dL_law_306 ?_
    refine ga_lcmp C.1 dL_law_307 ?_
    refine ga_if_eq C.1 dL_law_308 (tgt := 313) (by decide) (fun c3 => ?_) (fun c3 => absurd (lg_cmp_same (hk3 c2)) c3)
    refine ga_goto C.1 dL_law_313 (tgt := 2278) (by decide) ?_
    exact hend _ _ _ _ _ hk2
set_option maxRecDepth 100000 in
set_option maxHeartbeats 4000000 in
theorem lcase_addType {g : wG} {Gr : rG} {X : rX} {b L : Nat} {xs : Nat → Int32} {Q : State → Prop} {o i : Nat} {Inv Inv2 : cS → rS → Prop} {z : cS} {S : rS} {f : Nat → Int64} {kc ks : Nat} (C : lC g Gr X b L xs) (hin : ∀ c : Nat, c < 6 → vp_in (nI i + nI c) L) (hI : Inv z S) (hO : ∀ z S, Inv z S → ∃ n, z.1 o = some (6, n)) (hsim : sim_addType o Inv Inv2) (hk : kc + 100 ≤ 601024) (hs : ks + 14000 ≤ 7293034)
    (hend : ∀ z' S' f' k5 k6, Inv2 z' S' → gAW X (lR g Gr X.2.2.2.2.1.heap.size) (lA X.2.2.2.2.1.heap.size) Q 7 2278 [some (.ref b), some (.ref o), some (.ref Gr.2.2.2.1), some (.ref g.2.1), some (.int (nI i)), k5, k6] [] (z', S', f') (kc + 100) (ks + 14000)) : gAW X (lR g Gr X.2.2.2.2.1.heap.size) (lA X.2.2.2.2.1.heap.size) Q 7 316 [some (.ref b), some (.ref o), some (.ref Gr.2.2.2.1), some (.ref g.2.1), some (.int (nI i)), none, none] [] (z, S, f) kc ks := by
  obtain ⟨n0, hq⟩ := hO z S hI
  refine ga_aload_n C.1 dL_law_316 rfl rfl ?_
  refine ga_aload_n C.1 dL_law_317 rfl rfl ?_
  refine ga_iload C.1 dL_law_318 rfl ?_
  refine ga_iconst C.1 dL_law_320 (v := 1) (by decide) ?_
  refine ga_iadd C.1 dL_law_321 ?_
  refine la_sld C dL_law_322 (hin 1 (by decide)) ?_
  refine ga_aload_n C.1 dL_law_323 rfl rfl ?_
  refine ga_iload C.1 dL_law_324 rfl ?_
  refine ga_iconst C.1 dL_law_326 (v := 2) (by decide) ?_
  refine ga_iadd C.1 dL_law_327 ?_
  refine la_sld C dL_law_328 (hin 2 (by decide)) ?_
  obtain ⟨P, hsp, hE, v, S1, hv, hl, hr⟩ := hsim z S (xs (nI i + 1).toNatClampNeg) (xs (nI i + 2).toNatClampNeg) hI
  refine ga_aload_n C.1 dL_law_329 rfl rfl ?_
  refine la_callW C dL_law_330 (fun sz => wM_addType (C.2.2.2.2.2.2.2.2.2.2.2.2.1) hq hsp hE) rfl lL_128 lT_L_addType tL_init lC_L_addType lH_L_addType (by decide) (by decide) (Nat.le_of_ble_eq_true rfl) hk hs (fun k w2 hF => ?_)
  refine ga_istore C.1 dL_law_333 (by decide) ?_
  refine ga_aload_n C.1 dL_law_335 rfl rfl ?_
  refine ga_aload_n C.1 dL_law_336 rfl rfl ?_
  refine ga_iload C.1 dL_law_337 rfl ?_
  refine ga_iconst C.1 dL_law_339 (v := 1) (by decide) ?_
  refine ga_iadd C.1 dL_law_340 ?_
  refine la_sld C dL_law_341 (hin 1 (by decide)) ?_
  refine ga_aload_n C.1 dL_law_342 rfl rfl ?_
  refine ga_iload C.1 dL_law_343 rfl ?_
  refine ga_iconst C.1 dL_law_345 (v := 2) (by decide) ?_
  refine ga_iadd C.1 dL_law_346 ?_
  refine la_sld C dL_law_347 (hin 2 (by decide)) ?_
  refine la_callR C dL_law_348 (mX7_addType hv) rfl lL_130 lI_X7_addType lS_X7_addType tX7_init lC_X7_addType lH_X7_addType (by decide) (by decide) (Nat.le_of_ble_eq_true rfl) (by omega) (by omega) ?_
  refine ga_istore C.1 dL_law_351 (by decide) ?_
  refine ga_aload_n C.1 dL_law_353 rfl rfl ?_
  refine la_callR C dL_law_354 (mX7_thrown (r := (S1.1 54, S1)) rfl) rfl lL_122 lI_X7_thrown lS_X7_thrown tX7_init lC_X7_thrown lH_X7_thrown (by decide) (by decide) (Nat.le_of_ble_eq_true rfl) (by omega) (by omega) ?_
  refine ga_iload C.1 dL_law_357 rfl ?_
  have hkk : S1.1 54 = k ∧ Inv2 w2.1 S1 ∧ (k = 0 → w2.2 0 = v.toInt64) := by
    rcases hF with ⟨w, hP, rfl, ho⟩ | ⟨e, hP, rfl⟩
    · obtain ⟨q1, rfl, q3⟩ := hl w _ hP; exact ⟨q1, q3, fun _ => ho⟩
    · obtain ⟨q1, q2⟩ := hr e _ hP; refine ⟨q1, q2, fun h => ?_⟩; rcases hE e _ hP with rfl | rfl | rfl <;> exact absurd h (by decide)
  obtain ⟨hk1, hk2, hk3⟩ := hkk
  refine ga_icmp_eq C.1 dL_law_359 (tgt := 364) (by decide) (fun c1 => ?_) (fun c1 => absurd hk1 c1)
  refine ga_iload C.1 dL_law_364 rfl ?_
  refine ga_if_ne C.1 dL_law_366 (tgt := 381) (by decide) (fun c2 => ?_) (fun c2 => ?_)
  · refine ga_goto C.1 dL_law_381 (tgt := 2278) (by decide) ?_
    exact hend _ _ _ _ _ hk2
  · refine ga_aload_n C.1 dL_law_369 rfl rfl ?_
    refine ga_iconst C.1 dL_law_370 (v := 0) (by decide) ?_
    refine la_lald C dL_law_371 ?_
    refine ga_iload C.1 dL_law_372 rfl ?_
    refine ga_i2l C.1 dL_law_374 ?_
    refine ga_lcmp C.1 dL_law_375 ?_
    refine ga_if_eq C.1 dL_law_376 (tgt := 381) (by decide) (fun c3 => ?_) (fun c3 => absurd (lg_cmp_same (hk3 c2)) c3)
    refine ga_goto C.1 dL_law_381 (tgt := 2278) (by decide) ?_
    exact hend _ _ _ _ _ hk2
set_option maxRecDepth 100000 in
set_option maxHeartbeats 4000000 in
theorem lcase_addValue {g : wG} {Gr : rG} {X : rX} {b L : Nat} {xs : Nat → Int32} {Q : State → Prop} {o i : Nat} {Inv Inv2 : cS → rS → Prop} {z : cS} {S : rS} {f : Nat → Int64} {kc ks : Nat} (C : lC g Gr X b L xs) (hin : ∀ c : Nat, c < 6 → vp_in (nI i + nI c) L) (hI : Inv z S) (hO : ∀ z S, Inv z S → ∃ n, z.1 o = some (6, n)) (hsim : sim_addValue o Inv Inv2) (hk : kc + 100 ≤ 601024) (hs : ks + 14000 ≤ 7293034)
    (hend : ∀ z' S' f' k5 k6, Inv2 z' S' → gAW X (lR g Gr X.2.2.2.2.1.heap.size) (lA X.2.2.2.2.1.heap.size) Q 7 2278 [some (.ref b), some (.ref o), some (.ref Gr.2.2.2.1), some (.ref g.2.1), some (.int (nI i)), k5, k6] [] (z', S', f') (kc + 100) (ks + 14000)) : gAW X (lR g Gr X.2.2.2.2.1.heap.size) (lA X.2.2.2.2.1.heap.size) Q 7 384 [some (.ref b), some (.ref o), some (.ref Gr.2.2.2.1), some (.ref g.2.1), some (.int (nI i)), none, none] [] (z, S, f) kc ks := by
  obtain ⟨n0, hq⟩ := hO z S hI
  refine ga_aload_n C.1 dL_law_384 rfl rfl ?_
  refine ga_aload_n C.1 dL_law_385 rfl rfl ?_
  refine ga_iload C.1 dL_law_386 rfl ?_
  refine ga_iconst C.1 dL_law_388 (v := 1) (by decide) ?_
  refine ga_iadd C.1 dL_law_389 ?_
  refine la_sld C dL_law_390 (hin 1 (by decide)) ?_
  refine ga_aload_n C.1 dL_law_391 rfl rfl ?_
  refine ga_iload C.1 dL_law_392 rfl ?_
  refine ga_iconst C.1 dL_law_394 (v := 2) (by decide) ?_
  refine ga_iadd C.1 dL_law_395 ?_
  refine la_sld C dL_law_396 (hin 2 (by decide)) ?_
  refine ga_aload_n C.1 dL_law_397 rfl rfl ?_
  refine ga_iload C.1 dL_law_398 rfl ?_
  refine ga_iconst C.1 dL_law_400 (v := 3) (by decide) ?_
  refine ga_iadd C.1 dL_law_401 ?_
  refine la_sld C dL_law_402 (hin 3 (by decide)) ?_
  obtain ⟨P, hsp, hE, v, S1, hv, hl, hr⟩ := hsim z S (xs (nI i + 1).toNatClampNeg) (xs (nI i + 2).toNatClampNeg) (xs (nI i + 3).toNatClampNeg) hI
  refine ga_aload_n C.1 dL_law_403 rfl rfl ?_
  refine la_callW C dL_law_404 (fun sz => wM_addValue (C.2.2.2.2.2.2.2.2.2.2.2.2.1) hq hsp hE) rfl lL_131 lT_L_addValue tL_init lC_L_addValue lH_L_addValue (by decide) (by decide) (Nat.le_of_ble_eq_true rfl) hk hs (fun k w2 hF => ?_)
  refine ga_istore C.1 dL_law_407 (by decide) ?_
  refine ga_aload_n C.1 dL_law_409 rfl rfl ?_
  refine ga_aload_n C.1 dL_law_410 rfl rfl ?_
  refine ga_iload C.1 dL_law_411 rfl ?_
  refine ga_iconst C.1 dL_law_413 (v := 1) (by decide) ?_
  refine ga_iadd C.1 dL_law_414 ?_
  refine la_sld C dL_law_415 (hin 1 (by decide)) ?_
  refine ga_aload_n C.1 dL_law_416 rfl rfl ?_
  refine ga_iload C.1 dL_law_417 rfl ?_
  refine ga_iconst C.1 dL_law_419 (v := 2) (by decide) ?_
  refine ga_iadd C.1 dL_law_420 ?_
  refine la_sld C dL_law_421 (hin 2 (by decide)) ?_
  refine ga_aload_n C.1 dL_law_422 rfl rfl ?_
  refine ga_iload C.1 dL_law_423 rfl ?_
  refine ga_iconst C.1 dL_law_425 (v := 3) (by decide) ?_
  refine ga_iadd C.1 dL_law_426 ?_
  refine la_sld C dL_law_427 (hin 3 (by decide)) ?_
  refine la_callR C dL_law_428 (mX7_addValue hv) rfl lL_134 lI_X7_addValue lS_X7_addValue tX7_init lC_X7_addValue lH_X7_addValue (by decide) (by decide) (Nat.le_of_ble_eq_true rfl) (by omega) (by omega) ?_
  refine ga_istore C.1 dL_law_431 (by decide) ?_
  refine ga_aload_n C.1 dL_law_433 rfl rfl ?_
  refine la_callR C dL_law_434 (mX7_thrown (r := (S1.1 54, S1)) rfl) rfl lL_122 lI_X7_thrown lS_X7_thrown tX7_init lC_X7_thrown lH_X7_thrown (by decide) (by decide) (Nat.le_of_ble_eq_true rfl) (by omega) (by omega) ?_
  refine ga_iload C.1 dL_law_437 rfl ?_
  have hkk : S1.1 54 = k ∧ Inv2 w2.1 S1 ∧ (k = 0 → w2.2 0 = (if v = 0 then 0 else 1)) := by
    rcases hF with ⟨w, hP, rfl, ho⟩ | ⟨e, hP, rfl⟩
    · obtain ⟨q1, rfl, q3⟩ := hl w _ hP; exact ⟨q1, q3, fun _ => ho⟩
    · obtain ⟨q1, q2⟩ := hr e _ hP; refine ⟨q1, q2, fun h => ?_⟩; rcases hE e _ hP with rfl | rfl <;> exact absurd h (by decide)
  obtain ⟨hk1, hk2, hk3⟩ := hkk
  refine ga_icmp_eq C.1 dL_law_439 (tgt := 444) (by decide) (fun c1 => ?_) (fun c1 => absurd hk1 c1)
  refine ga_iload C.1 dL_law_444 rfl ?_
  refine ga_if_ne C.1 dL_law_446 (tgt := 468) (by decide) (fun c2 => ?_) (fun c2 => ?_)
  · refine ga_goto C.1 dL_law_468 (tgt := 2278) (by decide) ?_
    exact hend _ _ _ _ _ hk2
  · refine ga_aload_n C.1 dL_law_449 rfl rfl ?_
    refine ga_iconst C.1 dL_law_450 (v := 0) (by decide) ?_
    refine la_lald C dL_law_451 ?_
    refine ga_iload C.1 dL_law_452 rfl ?_
    refine ga_boolL C.1 (t1 := 461) (t2 := 462) dL_law_454 (by decide) dL_law_457 dL_law_458 (by decide) dL_law_461 rfl ?_
    refine ga_lcmp C.1 dL_law_462 ?_
    refine ga_if_eq C.1 dL_law_463 (tgt := 468) (by decide) (fun c3 => ?_) (fun c3 => absurd (lg_cmp_same (hk3 c2)) c3)
    refine ga_goto C.1 dL_law_468 (tgt := 2278) (by decide) ?_
    exact hend _ _ _ _ _ hk2
set_option maxRecDepth 100000 in
set_option maxHeartbeats 4000000 in
theorem lcase_addPart {g : wG} {Gr : rG} {X : rX} {b L : Nat} {xs : Nat → Int32} {Q : State → Prop} {o i : Nat} {Inv Inv2 : cS → rS → Prop} {z : cS} {S : rS} {f : Nat → Int64} {kc ks : Nat} (C : lC g Gr X b L xs) (hin : ∀ c : Nat, c < 6 → vp_in (nI i + nI c) L) (hI : Inv z S) (hO : ∀ z S, Inv z S → ∃ n, z.1 o = some (6, n)) (hsim : sim_addPart o Inv Inv2) (hk : kc + 100 ≤ 601024) (hs : ks + 14000 ≤ 7293034)
    (hend : ∀ z' S' f' k5 k6, Inv2 z' S' → gAW X (lR g Gr X.2.2.2.2.1.heap.size) (lA X.2.2.2.2.1.heap.size) Q 7 2278 [some (.ref b), some (.ref o), some (.ref Gr.2.2.2.1), some (.ref g.2.1), some (.int (nI i)), k5, k6] [] (z', S', f') (kc + 100) (ks + 14000)) : gAW X (lR g Gr X.2.2.2.2.1.heap.size) (lA X.2.2.2.2.1.heap.size) Q 7 471 [some (.ref b), some (.ref o), some (.ref Gr.2.2.2.1), some (.ref g.2.1), some (.int (nI i)), none, none] [] (z, S, f) kc ks := by
  obtain ⟨n0, hq⟩ := hO z S hI
  refine ga_aload_n C.1 dL_law_471 rfl rfl ?_
  refine ga_aload_n C.1 dL_law_472 rfl rfl ?_
  refine ga_iload C.1 dL_law_473 rfl ?_
  refine ga_iconst C.1 dL_law_475 (v := 1) (by decide) ?_
  refine ga_iadd C.1 dL_law_476 ?_
  refine la_sld C dL_law_477 (hin 1 (by decide)) ?_
  refine ga_aload_n C.1 dL_law_478 rfl rfl ?_
  refine ga_iload C.1 dL_law_479 rfl ?_
  refine ga_iconst C.1 dL_law_481 (v := 2) (by decide) ?_
  refine ga_iadd C.1 dL_law_482 ?_
  refine la_sld C dL_law_483 (hin 2 (by decide)) ?_
  obtain ⟨P, hsp, hE, v, S1, hv, hl, hr⟩ := hsim z S (xs (nI i + 1).toNatClampNeg) (xs (nI i + 2).toNatClampNeg) hI
  refine ga_aload_n C.1 dL_law_484 rfl rfl ?_
  refine la_callW C dL_law_485 (fun sz => wM_addPart (C.2.2.2.2.2.2.2.2.2.2.2.2.1) hq hsp hE) rfl lL_135 lT_L_addPart tL_init lC_L_addPart lH_L_addPart (by decide) (by decide) (Nat.le_of_ble_eq_true rfl) hk hs (fun k w2 hF => ?_)
  refine ga_istore C.1 dL_law_488 (by decide) ?_
  refine ga_aload_n C.1 dL_law_490 rfl rfl ?_
  refine ga_aload_n C.1 dL_law_491 rfl rfl ?_
  refine ga_iload C.1 dL_law_492 rfl ?_
  refine ga_iconst C.1 dL_law_494 (v := 1) (by decide) ?_
  refine ga_iadd C.1 dL_law_495 ?_
  refine la_sld C dL_law_496 (hin 1 (by decide)) ?_
  refine ga_aload_n C.1 dL_law_497 rfl rfl ?_
  refine ga_iload C.1 dL_law_498 rfl ?_
  refine ga_iconst C.1 dL_law_500 (v := 2) (by decide) ?_
  refine ga_iadd C.1 dL_law_501 ?_
  refine la_sld C dL_law_502 (hin 2 (by decide)) ?_
  refine la_callR C dL_law_503 (mX7_addPart hv) rfl lL_137 lI_X7_addPart lS_X7_addPart tX7_init lC_X7_addPart lH_X7_addPart (by decide) (by decide) (Nat.le_of_ble_eq_true rfl) (by omega) (by omega) ?_
  refine ga_istore C.1 dL_law_506 (by decide) ?_
  refine ga_aload_n C.1 dL_law_508 rfl rfl ?_
  refine la_callR C dL_law_509 (mX7_thrown (r := (S1.1 54, S1)) rfl) rfl lL_122 lI_X7_thrown lS_X7_thrown tX7_init lC_X7_thrown lH_X7_thrown (by decide) (by decide) (Nat.le_of_ble_eq_true rfl) (by omega) (by omega) ?_
  refine ga_iload C.1 dL_law_512 rfl ?_
  have hkk : S1.1 54 = k ∧ Inv2 w2.1 S1 ∧ (k = 0 → w2.2 0 = (if v = 0 then 0 else 1)) := by
    rcases hF with ⟨w, hP, rfl, ho⟩ | ⟨e, hP, rfl⟩
    · obtain ⟨q1, rfl, q3⟩ := hl w _ hP; exact ⟨q1, q3, fun _ => ho⟩
    · obtain ⟨q1, q2⟩ := hr e _ hP; refine ⟨q1, q2, fun h => ?_⟩; rcases hE e _ hP with rfl | rfl <;> exact absurd h (by decide)
  obtain ⟨hk1, hk2, hk3⟩ := hkk
  refine ga_icmp_eq C.1 dL_law_514 (tgt := 519) (by decide) (fun c1 => ?_) (fun c1 => absurd hk1 c1)
  refine ga_iload C.1 dL_law_519 rfl ?_
  refine ga_if_ne C.1 dL_law_521 (tgt := 543) (by decide) (fun c2 => ?_) (fun c2 => ?_)
  · refine ga_goto C.1 dL_law_543 (tgt := 2278) (by decide) ?_
    exact hend _ _ _ _ _ hk2
  · refine ga_aload_n C.1 dL_law_524 rfl rfl ?_
    refine ga_iconst C.1 dL_law_525 (v := 0) (by decide) ?_
    refine la_lald C dL_law_526 ?_
    refine ga_iload C.1 dL_law_527 rfl ?_
    refine ga_boolL C.1 (t1 := 536) (t2 := 537) dL_law_529 (by decide) dL_law_532 dL_law_533 (by decide) dL_law_536 rfl ?_
    refine ga_lcmp C.1 dL_law_537 ?_
    refine ga_if_eq C.1 dL_law_538 (tgt := 543) (by decide) (fun c3 => ?_) (fun c3 => absurd (lg_cmp_same (hk3 c2)) c3)
    refine ga_goto C.1 dL_law_543 (tgt := 2278) (by decide) ?_
    exact hend _ _ _ _ _ hk2
set_option maxRecDepth 100000 in
set_option maxHeartbeats 4000000 in
theorem lcase_open {g : wG} {Gr : rG} {X : rX} {b L : Nat} {xs : Nat → Int32} {Q : State → Prop} {o i : Nat} {Inv Inv2 : cS → rS → Prop} {z : cS} {S : rS} {f : Nat → Int64} {kc ks : Nat} (C : lC g Gr X b L xs) (hin : ∀ c : Nat, c < 6 → vp_in (nI i + nI c) L) (hI : Inv z S) (hO : ∀ z S, Inv z S → ∃ n, z.1 o = some (6, n)) (hsim : sim_open o Inv Inv2) (hk : kc + 100 ≤ 601024) (hs : ks + 14000 ≤ 7293034)
    (hend : ∀ z' S' f' k5 k6, Inv2 z' S' → gAW X (lR g Gr X.2.2.2.2.1.heap.size) (lA X.2.2.2.2.1.heap.size) Q 7 2278 [some (.ref b), some (.ref o), some (.ref Gr.2.2.2.1), some (.ref g.2.1), some (.int (nI i)), k5, k6] [] (z', S', f') (kc + 100) (ks + 14000)) : gAW X (lR g Gr X.2.2.2.2.1.heap.size) (lA X.2.2.2.2.1.heap.size) Q 7 546 [some (.ref b), some (.ref o), some (.ref Gr.2.2.2.1), some (.ref g.2.1), some (.int (nI i)), none, none] [] (z, S, f) kc ks := by
  obtain ⟨n0, hq⟩ := hO z S hI
  refine ga_aload_n C.1 dL_law_546 rfl rfl ?_
  refine ga_aload_n C.1 dL_law_547 rfl rfl ?_
  refine ga_iload C.1 dL_law_548 rfl ?_
  refine ga_iconst C.1 dL_law_550 (v := 1) (by decide) ?_
  refine ga_iadd C.1 dL_law_551 ?_
  refine la_sld C dL_law_552 (hin 1 (by decide)) ?_
  obtain ⟨P, hsp, hE, v, S1, hv, hl, hr⟩ := hsim z S (xs (nI i + 1).toNatClampNeg) hI
  refine ga_aload_n C.1 dL_law_553 rfl rfl ?_
  refine la_callW C dL_law_554 (fun sz => wM_open (C.2.2.2.2.2.2.2.2.2.2.2.2.1) hq hsp hE) rfl lL_138 lT_L_open tL_init lC_L_open lH_L_open (by decide) (by decide) (Nat.le_of_ble_eq_true rfl) hk hs (fun k w2 hF => ?_)
  refine ga_istore C.1 dL_law_557 (by decide) ?_
  refine ga_aload_n C.1 dL_law_559 rfl rfl ?_
  refine ga_aload_n C.1 dL_law_560 rfl rfl ?_
  refine ga_iload C.1 dL_law_561 rfl ?_
  refine ga_iconst C.1 dL_law_563 (v := 1) (by decide) ?_
  refine ga_iadd C.1 dL_law_564 ?_
  refine la_sld C dL_law_565 (hin 1 (by decide)) ?_
  refine la_callR C dL_law_566 (mX7_open hv) rfl lL_141 lI_X7_open lS_X7_open tX7_init lC_X7_open lH_X7_open (by decide) (by decide) (Nat.le_of_ble_eq_true rfl) (by omega) (by omega) ?_
  refine ga_istore C.1 dL_law_569 (by decide) ?_
  refine ga_aload_n C.1 dL_law_571 rfl rfl ?_
  refine la_callR C dL_law_572 (mX7_thrown (r := (S1.1 54, S1)) rfl) rfl lL_122 lI_X7_thrown lS_X7_thrown tX7_init lC_X7_thrown lH_X7_thrown (by decide) (by decide) (Nat.le_of_ble_eq_true rfl) (by omega) (by omega) ?_
  refine ga_iload C.1 dL_law_575 rfl ?_
  have hkk : S1.1 54 = k ∧ Inv2 w2.1 S1 ∧ (k = 0 → w2.2 0 = v.toInt64) := by
    rcases hF with ⟨w, hP, rfl, ho⟩ | ⟨e, hP, rfl⟩
    · obtain ⟨q1, rfl, q3⟩ := hl w _ hP; exact ⟨q1, q3, fun _ => ho⟩
    · obtain ⟨q1, q2⟩ := hr e _ hP; refine ⟨q1, q2, fun h => ?_⟩; obtain rfl := hE e _ hP; exact absurd h (by decide)
  obtain ⟨hk1, hk2, hk3⟩ := hkk
  refine ga_icmp_eq C.1 dL_law_577 (tgt := 582) (by decide) (fun c1 => ?_) (fun c1 => absurd hk1 c1)
  refine ga_iload C.1 dL_law_582 rfl ?_
  refine ga_if_ne C.1 dL_law_584 (tgt := 599) (by decide) (fun c2 => ?_) (fun c2 => ?_)
  · refine ga_goto C.1 dL_law_599 (tgt := 2278) (by decide) ?_
    exact hend _ _ _ _ _ hk2
  · refine ga_aload_n C.1 dL_law_587 rfl rfl ?_
    refine ga_iconst C.1 dL_law_588 (v := 0) (by decide) ?_
    refine la_lald C dL_law_589 ?_
    refine ga_iload C.1 dL_law_590 rfl ?_
    refine ga_i2l C.1 dL_law_592 ?_
    refine ga_lcmp C.1 dL_law_593 ?_
    refine ga_if_eq C.1 dL_law_594 (tgt := 599) (by decide) (fun c3 => ?_) (fun c3 => absurd (lg_cmp_same (hk3 c2)) c3)
    refine ga_goto C.1 dL_law_599 (tgt := 2278) (by decide) ?_
    exact hend _ _ _ _ _ hk2
set_option maxRecDepth 100000 in
set_option maxHeartbeats 4000000 in
theorem lcase_structure {g : wG} {Gr : rG} {X : rX} {b L : Nat} {xs : Nat → Int32} {Q : State → Prop} {o i : Nat} {Inv Inv2 : cS → rS → Prop} {z : cS} {S : rS} {f : Nat → Int64} {kc ks : Nat} (C : lC g Gr X b L xs) (hin : ∀ c : Nat, c < 6 → vp_in (nI i + nI c) L) (hI : Inv z S) (hO : ∀ z S, Inv z S → ∃ n, z.1 o = some (6, n)) (hsim : sim_structure o Inv Inv2) (hk : kc + 100 ≤ 601024) (hs : ks + 14000 ≤ 7293034)
    (hend : ∀ z' S' f' k5 k6, Inv2 z' S' → gAW X (lR g Gr X.2.2.2.2.1.heap.size) (lA X.2.2.2.2.1.heap.size) Q 7 2278 [some (.ref b), some (.ref o), some (.ref Gr.2.2.2.1), some (.ref g.2.1), some (.int (nI i)), k5, k6] [] (z', S', f') (kc + 100) (ks + 14000)) : gAW X (lR g Gr X.2.2.2.2.1.heap.size) (lA X.2.2.2.2.1.heap.size) Q 7 602 [some (.ref b), some (.ref o), some (.ref Gr.2.2.2.1), some (.ref g.2.1), some (.int (nI i)), none, none] [] (z, S, f) kc ks := by
  obtain ⟨n0, hq⟩ := hO z S hI
  refine ga_aload_n C.1 dL_law_602 rfl rfl ?_
  obtain ⟨P, hsp, hE, v, S1, hv, hl, hr⟩ := hsim z S hI
  refine ga_aload_n C.1 dL_law_603 rfl rfl ?_
  refine la_callW C dL_law_604 (fun sz => wM_structure (C.2.2.2.2.2.2.2.2.2.2.2.2.1) hq hsp hE) rfl lL_142 lT_L_structure tL_init lC_L_structure lH_L_structure (by decide) (by decide) (Nat.le_of_ble_eq_true rfl) hk hs (fun k w2 hF => ?_)
  refine ga_istore C.1 dL_law_607 (by decide) ?_
  refine ga_aload_n C.1 dL_law_609 rfl rfl ?_
  refine la_callR C dL_law_610 (mX7_structure hv) rfl lL_145 lI_X7_structure lS_X7_structure tX7_init lC_X7_structure lH_X7_structure (by decide) (by decide) (Nat.le_of_ble_eq_true rfl) (by omega) (by omega) ?_
  refine ga_istore C.1 dL_law_613 (by decide) ?_
  refine ga_aload_n C.1 dL_law_615 rfl rfl ?_
  refine la_callR C dL_law_616 (mX7_thrown (r := (S1.1 54, S1)) rfl) rfl lL_122 lI_X7_thrown lS_X7_thrown tX7_init lC_X7_thrown lH_X7_thrown (by decide) (by decide) (Nat.le_of_ble_eq_true rfl) (by omega) (by omega) ?_
  refine ga_iload C.1 dL_law_619 rfl ?_
  have hkk : S1.1 54 = k ∧ Inv2 w2.1 S1 ∧ (k = 0 → w2.2 0 = v.toInt64) := by
    rcases hF with ⟨w, hP, rfl, ho⟩ | ⟨e, hP, rfl⟩
    · obtain ⟨q1, rfl, q3⟩ := hl w _ hP; exact ⟨q1, q3, fun _ => ho⟩
    · obtain ⟨q1, q2⟩ := hr e _ hP; refine ⟨q1, q2, fun h => ?_⟩; obtain rfl := hE e _ hP; exact absurd h (by decide)
  obtain ⟨hk1, hk2, hk3⟩ := hkk
  refine ga_icmp_eq C.1 dL_law_621 (tgt := 626) (by decide) (fun c1 => ?_) (fun c1 => absurd hk1 c1)
  refine ga_iload C.1 dL_law_626 rfl ?_
  refine ga_if_ne C.1 dL_law_628 (tgt := 643) (by decide) (fun c2 => ?_) (fun c2 => ?_)
  · refine ga_goto C.1 dL_law_643 (tgt := 2278) (by decide) ?_
    exact hend _ _ _ _ _ hk2
  · refine ga_aload_n C.1 dL_law_631 rfl rfl ?_
    refine ga_iconst C.1 dL_law_632 (v := 0) (by decide) ?_
    refine la_lald C dL_law_633 ?_
    refine ga_iload C.1 dL_law_634 rfl ?_
    refine ga_i2l C.1 dL_law_636 ?_
    refine ga_lcmp C.1 dL_law_637 ?_
    refine ga_if_eq C.1 dL_law_638 (tgt := 643) (by decide) (fun c3 => ?_) (fun c3 => absurd (lg_cmp_same (hk3 c2)) c3)
    refine ga_goto C.1 dL_law_643 (tgt := 2278) (by decide) ?_
    exact hend _ _ _ _ _ hk2
set_option maxRecDepth 100000 in
set_option maxHeartbeats 4000000 in
theorem lcase_item {g : wG} {Gr : rG} {X : rX} {b L : Nat} {xs : Nat → Int32} {Q : State → Prop} {o i : Nat} {Inv Inv2 : cS → rS → Prop} {z : cS} {S : rS} {f : Nat → Int64} {kc ks : Nat} (C : lC g Gr X b L xs) (hin : ∀ c : Nat, c < 6 → vp_in (nI i + nI c) L) (hI : Inv z S) (hO : ∀ z S, Inv z S → ∃ n, z.1 o = some (6, n)) (hsim : sim_item o Inv Inv2) (hk : kc + 100 ≤ 601024) (hs : ks + 14000 ≤ 7293034)
    (hend : ∀ z' S' f' k5 k6, Inv2 z' S' → gAW X (lR g Gr X.2.2.2.2.1.heap.size) (lA X.2.2.2.2.1.heap.size) Q 7 2278 [some (.ref b), some (.ref o), some (.ref Gr.2.2.2.1), some (.ref g.2.1), some (.int (nI i)), k5, k6] [] (z', S', f') (kc + 100) (ks + 14000)) : gAW X (lR g Gr X.2.2.2.2.1.heap.size) (lA X.2.2.2.2.1.heap.size) Q 7 646 [some (.ref b), some (.ref o), some (.ref Gr.2.2.2.1), some (.ref g.2.1), some (.int (nI i)), none, none] [] (z, S, f) kc ks := by
  obtain ⟨n0, hq⟩ := hO z S hI
  refine ga_aload_n C.1 dL_law_646 rfl rfl ?_
  refine ga_aload_n C.1 dL_law_647 rfl rfl ?_
  refine ga_iload C.1 dL_law_648 rfl ?_
  refine ga_iconst C.1 dL_law_650 (v := 1) (by decide) ?_
  refine ga_iadd C.1 dL_law_651 ?_
  refine la_sld C dL_law_652 (hin 1 (by decide)) ?_
  refine ga_aload_n C.1 dL_law_653 rfl rfl ?_
  refine ga_iload C.1 dL_law_654 rfl ?_
  refine ga_iconst C.1 dL_law_656 (v := 2) (by decide) ?_
  refine ga_iadd C.1 dL_law_657 ?_
  refine la_sld C dL_law_658 (hin 2 (by decide)) ?_
  refine ga_aload_n C.1 dL_law_659 rfl rfl ?_
  refine ga_iload C.1 dL_law_660 rfl ?_
  refine ga_iconst C.1 dL_law_662 (v := 3) (by decide) ?_
  refine ga_iadd C.1 dL_law_663 ?_
  refine la_sld C dL_law_664 (hin 3 (by decide)) ?_
  refine ga_aload_n C.1 dL_law_665 rfl rfl ?_
  refine ga_iload C.1 dL_law_666 rfl ?_
  refine ga_iconst C.1 dL_law_668 (v := 4) (by decide) ?_
  refine ga_iadd C.1 dL_law_669 ?_
  refine la_sld C dL_law_670 (hin 4 (by decide)) ?_
  obtain ⟨P, hsp, hE, v, S1, hv, hl, hr⟩ := hsim z S (xs (nI i + 1).toNatClampNeg) (xs (nI i + 2).toNatClampNeg) (xs (nI i + 3).toNatClampNeg) (xs (nI i + 4).toNatClampNeg) hI
  refine ga_aload_n C.1 dL_law_671 rfl rfl ?_
  refine la_callW C dL_law_672 (fun sz => wM_item (C.2.2.2.2.2.2.2.2.2.2.2.2.1) hq hsp hE) rfl lL_146 lT_L_item tL_init lC_L_item lH_L_item (by decide) (by decide) (Nat.le_of_ble_eq_true rfl) hk hs (fun k w2 hF => ?_)
  refine ga_istore C.1 dL_law_675 (by decide) ?_
  refine ga_aload_n C.1 dL_law_677 rfl rfl ?_
  refine ga_aload_n C.1 dL_law_678 rfl rfl ?_
  refine ga_iload C.1 dL_law_679 rfl ?_
  refine ga_iconst C.1 dL_law_681 (v := 1) (by decide) ?_
  refine ga_iadd C.1 dL_law_682 ?_
  refine la_sld C dL_law_683 (hin 1 (by decide)) ?_
  refine ga_aload_n C.1 dL_law_684 rfl rfl ?_
  refine ga_iload C.1 dL_law_685 rfl ?_
  refine ga_iconst C.1 dL_law_687 (v := 2) (by decide) ?_
  refine ga_iadd C.1 dL_law_688 ?_
  refine la_sld C dL_law_689 (hin 2 (by decide)) ?_
  refine ga_aload_n C.1 dL_law_690 rfl rfl ?_
  refine ga_iload C.1 dL_law_691 rfl ?_
  refine ga_iconst C.1 dL_law_693 (v := 3) (by decide) ?_
  refine ga_iadd C.1 dL_law_694 ?_
  refine la_sld C dL_law_695 (hin 3 (by decide)) ?_
  refine ga_aload_n C.1 dL_law_696 rfl rfl ?_
  refine ga_iload C.1 dL_law_697 rfl ?_
  refine ga_iconst C.1 dL_law_699 (v := 4) (by decide) ?_
  refine ga_iadd C.1 dL_law_700 ?_
  refine la_sld C dL_law_701 (hin 4 (by decide)) ?_
  refine la_callR C dL_law_702 (mX7_item hv) rfl lL_149 lI_X7_item lS_X7_item tX7_init lC_X7_item lH_X7_item (by decide) (by decide) (Nat.le_of_ble_eq_true rfl) (by omega) (by omega) ?_
  refine ga_istore C.1 dL_law_705 (by decide) ?_
  refine ga_aload_n C.1 dL_law_707 rfl rfl ?_
  refine la_callR C dL_law_708 (mX7_thrown (r := (S1.1 54, S1)) rfl) rfl lL_122 lI_X7_thrown lS_X7_thrown tX7_init lC_X7_thrown lH_X7_thrown (by decide) (by decide) (Nat.le_of_ble_eq_true rfl) (by omega) (by omega) ?_
  refine ga_iload C.1 dL_law_711 rfl ?_
  have hkk : S1.1 54 = k ∧ Inv2 w2.1 S1 ∧ (k = 0 → w2.2 0 = v.toInt64) := by
    rcases hF with ⟨w, hP, rfl, ho⟩ | ⟨e, hP, rfl⟩
    · obtain ⟨q1, rfl, q3⟩ := hl w _ hP; exact ⟨q1, q3, fun _ => ho⟩
    · obtain ⟨q1, q2⟩ := hr e _ hP; refine ⟨q1, q2, fun h => ?_⟩; rcases hE e _ hP with rfl | rfl <;> exact absurd h (by decide)
  obtain ⟨hk1, hk2, hk3⟩ := hkk
  refine ga_icmp_eq C.1 dL_law_713 (tgt := 718) (by decide) (fun c1 => ?_) (fun c1 => absurd hk1 c1)
  refine ga_iload C.1 dL_law_718 rfl ?_
  refine ga_if_ne C.1 dL_law_720 (tgt := 735) (by decide) (fun c2 => ?_) (fun c2 => ?_)
  · refine ga_goto C.1 dL_law_735 (tgt := 2278) (by decide) ?_
    exact hend _ _ _ _ _ hk2
  · refine ga_aload_n C.1 dL_law_723 rfl rfl ?_
    refine ga_iconst C.1 dL_law_724 (v := 0) (by decide) ?_
    refine la_lald C dL_law_725 ?_
    refine ga_iload C.1 dL_law_726 rfl ?_
    refine ga_i2l C.1 dL_law_728 ?_
    refine ga_lcmp C.1 dL_law_729 ?_
    refine ga_if_eq C.1 dL_law_730 (tgt := 735) (by decide) (fun c3 => ?_) (fun c3 => absurd (lg_cmp_same (hk3 c2)) c3)
    refine ga_goto C.1 dL_law_735 (tgt := 2278) (by decide) ?_
    exact hend _ _ _ _ _ hk2
set_option maxRecDepth 100000 in
set_option maxHeartbeats 4000000 in
theorem lcase_items {g : wG} {Gr : rG} {X : rX} {b L : Nat} {xs : Nat → Int32} {Q : State → Prop} {o i : Nat} {Inv Inv2 : cS → rS → Prop} {z : cS} {S : rS} {f : Nat → Int64} {kc ks : Nat} (C : lC g Gr X b L xs) (hin : ∀ c : Nat, c < 6 → vp_in (nI i + nI c) L) (hI : Inv z S) (hO : ∀ z S, Inv z S → ∃ n, z.1 o = some (6, n)) (hsim : sim_items o Inv Inv2) (hk : kc + 100 ≤ 601024) (hs : ks + 14000 ≤ 7293034)
    (hend : ∀ z' S' f' k5 k6, Inv2 z' S' → gAW X (lR g Gr X.2.2.2.2.1.heap.size) (lA X.2.2.2.2.1.heap.size) Q 7 2278 [some (.ref b), some (.ref o), some (.ref Gr.2.2.2.1), some (.ref g.2.1), some (.int (nI i)), k5, k6] [] (z', S', f') (kc + 100) (ks + 14000)) : gAW X (lR g Gr X.2.2.2.2.1.heap.size) (lA X.2.2.2.2.1.heap.size) Q 7 738 [some (.ref b), some (.ref o), some (.ref Gr.2.2.2.1), some (.ref g.2.1), some (.int (nI i)), none, none] [] (z, S, f) kc ks := by
  obtain ⟨n0, hq⟩ := hO z S hI
  refine ga_aload_n C.1 dL_law_738 rfl rfl ?_
  refine ga_aload_n C.1 dL_law_739 rfl rfl ?_
  refine ga_iload C.1 dL_law_740 rfl ?_
  refine ga_iconst C.1 dL_law_742 (v := 1) (by decide) ?_
  refine ga_iadd C.1 dL_law_743 ?_
  refine la_sld C dL_law_744 (hin 1 (by decide)) ?_
  obtain ⟨P, hsp, hE, v, S1, hv, hl, hr⟩ := hsim z S (xs (nI i + 1).toNatClampNeg) hI
  refine ga_aload_n C.1 dL_law_745 rfl rfl ?_
  refine la_callW C dL_law_746 (fun sz => wM_items (C.2.2.2.2.2.2.2.2.2.2.2.2.1) hq hsp hE) rfl lL_150 lT_L_items tL_init lC_L_items lH_L_items (by decide) (by decide) (Nat.le_of_ble_eq_true rfl) hk hs (fun k w2 hF => ?_)
  refine ga_istore C.1 dL_law_749 (by decide) ?_
  refine ga_aload_n C.1 dL_law_751 rfl rfl ?_
  refine ga_aload_n C.1 dL_law_752 rfl rfl ?_
  refine ga_iload C.1 dL_law_753 rfl ?_
  refine ga_iconst C.1 dL_law_755 (v := 1) (by decide) ?_
  refine ga_iadd C.1 dL_law_756 ?_
  refine la_sld C dL_law_757 (hin 1 (by decide)) ?_
  refine la_callR C dL_law_758 (mX7_items hv) rfl lL_152 lI_X7_items lS_X7_items tX7_init lC_X7_items lH_X7_items (by decide) (by decide) (Nat.le_of_ble_eq_true rfl) (by omega) (by omega) ?_
  refine ga_istore C.1 dL_law_761 (by decide) ?_
  refine ga_aload_n C.1 dL_law_763 rfl rfl ?_
  refine la_callR C dL_law_764 (mX7_thrown (r := (S1.1 54, S1)) rfl) rfl lL_122 lI_X7_thrown lS_X7_thrown tX7_init lC_X7_thrown lH_X7_thrown (by decide) (by decide) (Nat.le_of_ble_eq_true rfl) (by omega) (by omega) ?_
  refine ga_iload C.1 dL_law_767 rfl ?_
  have hkk : S1.1 54 = k ∧ Inv2 w2.1 S1 ∧ (k = 0 → w2.2 0 = v.toInt64) := by
    rcases hF with ⟨w, hP, rfl, ho⟩ | ⟨e, hP, rfl⟩
    · obtain ⟨q1, rfl, q3⟩ := hl w _ hP; exact ⟨q1, q3, fun _ => ho⟩
    · obtain ⟨q1, q2⟩ := hr e _ hP; refine ⟨q1, q2, fun h => ?_⟩; obtain rfl := hE e _ hP; exact absurd h (by decide)
  obtain ⟨hk1, hk2, hk3⟩ := hkk
  refine ga_icmp_eq C.1 dL_law_769 (tgt := 774) (by decide) (fun c1 => ?_) (fun c1 => absurd hk1 c1)
  refine ga_iload C.1 dL_law_774 rfl ?_
  refine ga_if_ne C.1 dL_law_776 (tgt := 791) (by decide) (fun c2 => ?_) (fun c2 => ?_)
  · refine ga_goto C.1 dL_law_791 (tgt := 2278) (by decide) ?_
    exact hend _ _ _ _ _ hk2
  · refine ga_aload_n C.1 dL_law_779 rfl rfl ?_
    refine ga_iconst C.1 dL_law_780 (v := 0) (by decide) ?_
    refine la_lald C dL_law_781 ?_
    refine ga_iload C.1 dL_law_782 rfl ?_
    refine ga_i2l C.1 dL_law_784 ?_
    refine ga_lcmp C.1 dL_law_785 ?_
    refine ga_if_eq C.1 dL_law_786 (tgt := 791) (by decide) (fun c3 => ?_) (fun c3 => absurd (lg_cmp_same (hk3 c2)) c3)
    refine ga_goto C.1 dL_law_791 (tgt := 2278) (by decide) ?_
    exact hend _ _ _ _ _ hk2
set_option maxRecDepth 100000 in
set_option maxHeartbeats 4000000 in
theorem lcase_specType {g : wG} {Gr : rG} {X : rX} {b L : Nat} {xs : Nat → Int32} {Q : State → Prop} {o i : Nat} {Inv Inv2 : cS → rS → Prop} {z : cS} {S : rS} {f : Nat → Int64} {kc ks : Nat} (C : lC g Gr X b L xs) (hin : ∀ c : Nat, c < 6 → vp_in (nI i + nI c) L) (hI : Inv z S) (hO : ∀ z S, Inv z S → ∃ n, z.1 o = some (6, n)) (hsim : sim_specType o Inv Inv2) (hk : kc + 100 ≤ 601024) (hs : ks + 14000 ≤ 7293034)
    (hend : ∀ z' S' f' k5 k6, Inv2 z' S' → gAW X (lR g Gr X.2.2.2.2.1.heap.size) (lA X.2.2.2.2.1.heap.size) Q 7 2278 [some (.ref b), some (.ref o), some (.ref Gr.2.2.2.1), some (.ref g.2.1), some (.int (nI i)), k5, k6] [] (z', S', f') (kc + 100) (ks + 14000)) : gAW X (lR g Gr X.2.2.2.2.1.heap.size) (lA X.2.2.2.2.1.heap.size) Q 7 794 [some (.ref b), some (.ref o), some (.ref Gr.2.2.2.1), some (.ref g.2.1), some (.int (nI i)), none, none] [] (z, S, f) kc ks := by
  obtain ⟨n0, hq⟩ := hO z S hI
  refine ga_aload_n C.1 dL_law_794 rfl rfl ?_
  refine ga_aload_n C.1 dL_law_795 rfl rfl ?_
  refine ga_iload C.1 dL_law_796 rfl ?_
  refine ga_iconst C.1 dL_law_798 (v := 1) (by decide) ?_
  refine ga_iadd C.1 dL_law_799 ?_
  refine la_sld C dL_law_800 (hin 1 (by decide)) ?_
  refine ga_aload_n C.1 dL_law_801 rfl rfl ?_
  refine ga_iload C.1 dL_law_802 rfl ?_
  refine ga_iconst C.1 dL_law_804 (v := 2) (by decide) ?_
  refine ga_iadd C.1 dL_law_805 ?_
  refine la_sld C dL_law_806 (hin 2 (by decide)) ?_
  obtain ⟨P, hsp, hE, v, S1, hv, hl, hr⟩ := hsim z S (xs (nI i + 1).toNatClampNeg) (xs (nI i + 2).toNatClampNeg) hI
  refine ga_aload_n C.1 dL_law_807 rfl rfl ?_
  refine la_callW C dL_law_808 (fun sz => wM_specType (C.2.2.2.2.2.2.2.2.2.2.2.2.1) hq hsp hE) rfl lL_153 lT_L_specType tL_init lC_L_specType lH_L_specType (by decide) (by decide) (Nat.le_of_ble_eq_true rfl) hk hs (fun k w2 hF => ?_)
  refine ga_istore C.1 dL_law_811 (by decide) ?_
  refine ga_aload_n C.1 dL_law_813 rfl rfl ?_
  refine ga_aload_n C.1 dL_law_814 rfl rfl ?_
  refine ga_iload C.1 dL_law_815 rfl ?_
  refine ga_iconst C.1 dL_law_817 (v := 1) (by decide) ?_
  refine ga_iadd C.1 dL_law_818 ?_
  refine la_sld C dL_law_819 (hin 1 (by decide)) ?_
  refine ga_aload_n C.1 dL_law_820 rfl rfl ?_
  refine ga_iload C.1 dL_law_821 rfl ?_
  refine ga_iconst C.1 dL_law_823 (v := 2) (by decide) ?_
  refine ga_iadd C.1 dL_law_824 ?_
  refine la_sld C dL_law_825 (hin 2 (by decide)) ?_
  refine la_callR C dL_law_826 (mX7_specType hv) rfl lL_155 lI_X7_specType lS_X7_specType tX7_init lC_X7_specType lH_X7_specType (by decide) (by decide) (Nat.le_of_ble_eq_true rfl) (by omega) (by omega) ?_
  refine ga_istore C.1 dL_law_829 (by decide) ?_
  refine ga_aload_n C.1 dL_law_831 rfl rfl ?_
  refine la_callR C dL_law_832 (mX7_thrown (r := (S1.1 54, S1)) rfl) rfl lL_122 lI_X7_thrown lS_X7_thrown tX7_init lC_X7_thrown lH_X7_thrown (by decide) (by decide) (Nat.le_of_ble_eq_true rfl) (by omega) (by omega) ?_
  refine ga_iload C.1 dL_law_835 rfl ?_
  have hkk : S1.1 54 = k ∧ Inv2 w2.1 S1 ∧ (k = 0 → w2.2 0 = v.toInt64) := by
    rcases hF with ⟨w, hP, rfl, ho⟩ | ⟨e, hP, rfl⟩
    · obtain ⟨q1, rfl, q3⟩ := hl w _ hP; exact ⟨q1, q3, fun _ => ho⟩
    · obtain ⟨q1, q2⟩ := hr e _ hP; refine ⟨q1, q2, fun h => ?_⟩; rcases hE e _ hP with rfl | rfl | rfl <;> exact absurd h (by decide)
  obtain ⟨hk1, hk2, hk3⟩ := hkk
  refine ga_icmp_eq C.1 dL_law_837 (tgt := 842) (by decide) (fun c1 => ?_) (fun c1 => absurd hk1 c1)
  refine ga_iload C.1 dL_law_842 rfl ?_
  refine ga_if_ne C.1 dL_law_844 (tgt := 859) (by decide) (fun c2 => ?_) (fun c2 => ?_)
  · refine ga_goto C.1 dL_law_859 (tgt := 2278) (by decide) ?_
    exact hend _ _ _ _ _ hk2
  · refine ga_aload_n C.1 dL_law_847 rfl rfl ?_
    refine ga_iconst C.1 dL_law_848 (v := 0) (by decide) ?_
    refine la_lald C dL_law_849 ?_
    refine ga_iload C.1 dL_law_850 rfl ?_
    refine ga_i2l C.1 dL_law_852 ?_
    refine ga_lcmp C.1 dL_law_853 ?_
    refine ga_if_eq C.1 dL_law_854 (tgt := 859) (by decide) (fun c3 => ?_) (fun c3 => absurd (lg_cmp_same (hk3 c2)) c3)
    refine ga_goto C.1 dL_law_859 (tgt := 2278) (by decide) ?_
    exact hend _ _ _ _ _ hk2
set_option maxRecDepth 100000 in
set_option maxHeartbeats 4000000 in
theorem lcase_specValue {g : wG} {Gr : rG} {X : rX} {b L : Nat} {xs : Nat → Int32} {Q : State → Prop} {o i : Nat} {Inv Inv2 : cS → rS → Prop} {z : cS} {S : rS} {f : Nat → Int64} {kc ks : Nat} (C : lC g Gr X b L xs) (hin : ∀ c : Nat, c < 6 → vp_in (nI i + nI c) L) (hI : Inv z S) (hO : ∀ z S, Inv z S → ∃ n, z.1 o = some (6, n)) (hsim : sim_specValue o Inv Inv2) (hk : kc + 100 ≤ 601024) (hs : ks + 14000 ≤ 7293034)
    (hend : ∀ z' S' f' k5 k6, Inv2 z' S' → gAW X (lR g Gr X.2.2.2.2.1.heap.size) (lA X.2.2.2.2.1.heap.size) Q 7 2278 [some (.ref b), some (.ref o), some (.ref Gr.2.2.2.1), some (.ref g.2.1), some (.int (nI i)), k5, k6] [] (z', S', f') (kc + 100) (ks + 14000)) : gAW X (lR g Gr X.2.2.2.2.1.heap.size) (lA X.2.2.2.2.1.heap.size) Q 7 862 [some (.ref b), some (.ref o), some (.ref Gr.2.2.2.1), some (.ref g.2.1), some (.int (nI i)), none, none] [] (z, S, f) kc ks := by
  obtain ⟨n0, hq⟩ := hO z S hI
  refine ga_aload_n C.1 dL_law_862 rfl rfl ?_
  refine ga_aload_n C.1 dL_law_863 rfl rfl ?_
  refine ga_iload C.1 dL_law_864 rfl ?_
  refine ga_iconst C.1 dL_law_866 (v := 1) (by decide) ?_
  refine ga_iadd C.1 dL_law_867 ?_
  refine la_sld C dL_law_868 (hin 1 (by decide)) ?_
  refine ga_aload_n C.1 dL_law_869 rfl rfl ?_
  refine ga_iload C.1 dL_law_870 rfl ?_
  refine ga_iconst C.1 dL_law_872 (v := 2) (by decide) ?_
  refine ga_iadd C.1 dL_law_873 ?_
  refine la_sld C dL_law_874 (hin 2 (by decide)) ?_
  refine ga_aload_n C.1 dL_law_875 rfl rfl ?_
  refine ga_iload C.1 dL_law_876 rfl ?_
  refine ga_iconst C.1 dL_law_878 (v := 3) (by decide) ?_
  refine ga_iadd C.1 dL_law_879 ?_
  refine la_sld C dL_law_880 (hin 3 (by decide)) ?_
  obtain ⟨P, hsp, hE, v, S1, hv, hl, hr⟩ := hsim z S (xs (nI i + 1).toNatClampNeg) (xs (nI i + 2).toNatClampNeg) (xs (nI i + 3).toNatClampNeg) hI
  refine ga_aload_n C.1 dL_law_881 rfl rfl ?_
  refine la_callW C dL_law_882 (fun sz => wM_specValue (C.2.2.2.2.2.2.2.2.2.2.2.2.1) hq hsp hE) rfl lL_156 lT_L_specValue tL_init lC_L_specValue lH_L_specValue (by decide) (by decide) (Nat.le_of_ble_eq_true rfl) hk hs (fun k w2 hF => ?_)
  refine ga_istore C.1 dL_law_885 (by decide) ?_
  refine ga_aload_n C.1 dL_law_887 rfl rfl ?_
  refine ga_aload_n C.1 dL_law_888 rfl rfl ?_
  refine ga_iload C.1 dL_law_889 rfl ?_
  refine ga_iconst C.1 dL_law_891 (v := 1) (by decide) ?_
  refine ga_iadd C.1 dL_law_892 ?_
  refine la_sld C dL_law_893 (hin 1 (by decide)) ?_
  refine ga_aload_n C.1 dL_law_894 rfl rfl ?_
  refine ga_iload C.1 dL_law_895 rfl ?_
  refine ga_iconst C.1 dL_law_897 (v := 2) (by decide) ?_
  refine ga_iadd C.1 dL_law_898 ?_
  refine la_sld C dL_law_899 (hin 2 (by decide)) ?_
  refine ga_aload_n C.1 dL_law_900 rfl rfl ?_
  refine ga_iload C.1 dL_law_901 rfl ?_
  refine ga_iconst C.1 dL_law_903 (v := 3) (by decide) ?_
  refine ga_iadd C.1 dL_law_904 ?_
  refine la_sld C dL_law_905 (hin 3 (by decide)) ?_
  refine la_callR C dL_law_906 (mX7_specValue hv) rfl lL_158 lI_X7_specValue lS_X7_specValue tX7_init lC_X7_specValue lH_X7_specValue (by decide) (by decide) (Nat.le_of_ble_eq_true rfl) (by omega) (by omega) ?_
  refine ga_istore C.1 dL_law_909 (by decide) ?_
  refine ga_aload_n C.1 dL_law_911 rfl rfl ?_
  refine la_callR C dL_law_912 (mX7_thrown (r := (S1.1 54, S1)) rfl) rfl lL_122 lI_X7_thrown lS_X7_thrown tX7_init lC_X7_thrown lH_X7_thrown (by decide) (by decide) (Nat.le_of_ble_eq_true rfl) (by omega) (by omega) ?_
  refine ga_iload C.1 dL_law_915 rfl ?_
  have hkk : S1.1 54 = k ∧ Inv2 w2.1 S1 ∧ (k = 0 → w2.2 0 = v.toInt64) := by
    rcases hF with ⟨w, hP, rfl, ho⟩ | ⟨e, hP, rfl⟩
    · obtain ⟨q1, rfl, q3⟩ := hl w _ hP; exact ⟨q1, q3, fun _ => ho⟩
    · obtain ⟨q1, q2⟩ := hr e _ hP; refine ⟨q1, q2, fun h => ?_⟩; rcases hE e _ hP with rfl | rfl | rfl <;> exact absurd h (by decide)
  obtain ⟨hk1, hk2, hk3⟩ := hkk
  refine ga_icmp_eq C.1 dL_law_917 (tgt := 922) (by decide) (fun c1 => ?_) (fun c1 => absurd hk1 c1)
  refine ga_iload C.1 dL_law_922 rfl ?_
  refine ga_if_ne C.1 dL_law_924 (tgt := 939) (by decide) (fun c2 => ?_) (fun c2 => ?_)
  · refine ga_goto C.1 dL_law_939 (tgt := 2278) (by decide) ?_
    exact hend _ _ _ _ _ hk2
  · refine ga_aload_n C.1 dL_law_927 rfl rfl ?_
    refine ga_iconst C.1 dL_law_928 (v := 0) (by decide) ?_
    refine la_lald C dL_law_929 ?_
    refine ga_iload C.1 dL_law_930 rfl ?_
    refine ga_i2l C.1 dL_law_932 ?_
    refine ga_lcmp C.1 dL_law_933 ?_
    refine ga_if_eq C.1 dL_law_934 (tgt := 939) (by decide) (fun c3 => ?_) (fun c3 => absurd (lg_cmp_same (hk3 c2)) c3)
    refine ga_goto C.1 dL_law_939 (tgt := 2278) (by decide) ?_
    exact hend _ _ _ _ _ hk2
set_option maxRecDepth 100000 in
set_option maxHeartbeats 4000000 in
theorem lcase_specPart {g : wG} {Gr : rG} {X : rX} {b L : Nat} {xs : Nat → Int32} {Q : State → Prop} {o i : Nat} {Inv Inv2 : cS → rS → Prop} {z : cS} {S : rS} {f : Nat → Int64} {kc ks : Nat} (C : lC g Gr X b L xs) (hin : ∀ c : Nat, c < 6 → vp_in (nI i + nI c) L) (hI : Inv z S) (hO : ∀ z S, Inv z S → ∃ n, z.1 o = some (6, n)) (hsim : sim_specPart o Inv Inv2) (hk : kc + 100 ≤ 601024) (hs : ks + 14000 ≤ 7293034)
    (hend : ∀ z' S' f' k5 k6, Inv2 z' S' → gAW X (lR g Gr X.2.2.2.2.1.heap.size) (lA X.2.2.2.2.1.heap.size) Q 7 2278 [some (.ref b), some (.ref o), some (.ref Gr.2.2.2.1), some (.ref g.2.1), some (.int (nI i)), k5, k6] [] (z', S', f') (kc + 100) (ks + 14000)) : gAW X (lR g Gr X.2.2.2.2.1.heap.size) (lA X.2.2.2.2.1.heap.size) Q 7 942 [some (.ref b), some (.ref o), some (.ref Gr.2.2.2.1), some (.ref g.2.1), some (.int (nI i)), none, none] [] (z, S, f) kc ks := by
  obtain ⟨n0, hq⟩ := hO z S hI
  refine ga_aload_n C.1 dL_law_942 rfl rfl ?_
  refine ga_aload_n C.1 dL_law_943 rfl rfl ?_
  refine ga_iload C.1 dL_law_944 rfl ?_
  refine ga_iconst C.1 dL_law_946 (v := 1) (by decide) ?_
  refine ga_iadd C.1 dL_law_947 ?_
  refine la_sld C dL_law_948 (hin 1 (by decide)) ?_
  refine ga_aload_n C.1 dL_law_949 rfl rfl ?_
  refine ga_iload C.1 dL_law_950 rfl ?_
  refine ga_iconst C.1 dL_law_952 (v := 2) (by decide) ?_
  refine ga_iadd C.1 dL_law_953 ?_
  refine la_sld C dL_law_954 (hin 2 (by decide)) ?_
  obtain ⟨P, hsp, hE, v, S1, hv, hl, hr⟩ := hsim z S (xs (nI i + 1).toNatClampNeg) (xs (nI i + 2).toNatClampNeg) hI
  refine ga_aload_n C.1 dL_law_955 rfl rfl ?_
  refine la_callW C dL_law_956 (fun sz => wM_specPart (C.2.2.2.2.2.2.2.2.2.2.2.2.1) hq hsp hE) rfl lL_159 lT_L_specPart tL_init lC_L_specPart lH_L_specPart (by decide) (by decide) (Nat.le_of_ble_eq_true rfl) hk hs (fun k w2 hF => ?_)
  refine ga_istore C.1 dL_law_959 (by decide) ?_
  refine ga_aload_n C.1 dL_law_961 rfl rfl ?_
  refine ga_aload_n C.1 dL_law_962 rfl rfl ?_
  refine ga_iload C.1 dL_law_963 rfl ?_
  refine ga_iconst C.1 dL_law_965 (v := 1) (by decide) ?_
  refine ga_iadd C.1 dL_law_966 ?_
  refine la_sld C dL_law_967 (hin 1 (by decide)) ?_
  refine ga_aload_n C.1 dL_law_968 rfl rfl ?_
  refine ga_iload C.1 dL_law_969 rfl ?_
  refine ga_iconst C.1 dL_law_971 (v := 2) (by decide) ?_
  refine ga_iadd C.1 dL_law_972 ?_
  refine la_sld C dL_law_973 (hin 2 (by decide)) ?_
  refine la_callR C dL_law_974 (mX7_specPart hv) rfl lL_161 lI_X7_specPart lS_X7_specPart tX7_init lC_X7_specPart lH_X7_specPart (by decide) (by decide) (Nat.le_of_ble_eq_true rfl) (by omega) (by omega) ?_
  refine ga_istore C.1 dL_law_977 (by decide) ?_
  refine ga_aload_n C.1 dL_law_979 rfl rfl ?_
  refine la_callR C dL_law_980 (mX7_thrown (r := (S1.1 54, S1)) rfl) rfl lL_122 lI_X7_thrown lS_X7_thrown tX7_init lC_X7_thrown lH_X7_thrown (by decide) (by decide) (Nat.le_of_ble_eq_true rfl) (by omega) (by omega) ?_
  refine ga_iload C.1 dL_law_983 rfl ?_
  have hkk : S1.1 54 = k ∧ Inv2 w2.1 S1 ∧ (k = 0 → w2.2 0 = v.toInt64) := by
    rcases hF with ⟨w, hP, rfl, ho⟩ | ⟨e, hP, rfl⟩
    · obtain ⟨q1, rfl, q3⟩ := hl w _ hP; exact ⟨q1, q3, fun _ => ho⟩
    · obtain ⟨q1, q2⟩ := hr e _ hP; refine ⟨q1, q2, fun h => ?_⟩; rcases hE e _ hP with rfl | rfl | rfl <;> exact absurd h (by decide)
  obtain ⟨hk1, hk2, hk3⟩ := hkk
  refine ga_icmp_eq C.1 dL_law_985 (tgt := 990) (by decide) (fun c1 => ?_) (fun c1 => absurd hk1 c1)
  refine ga_iload C.1 dL_law_990 rfl ?_
  refine ga_if_ne C.1 dL_law_992 (tgt := 1007) (by decide) (fun c2 => ?_) (fun c2 => ?_)
  · refine ga_goto C.1 dL_law_1007 (tgt := 2278) (by decide) ?_
    exact hend _ _ _ _ _ hk2
  · refine ga_aload_n C.1 dL_law_995 rfl rfl ?_
    refine ga_iconst C.1 dL_law_996 (v := 0) (by decide) ?_
    refine la_lald C dL_law_997 ?_
    refine ga_iload C.1 dL_law_998 rfl ?_
    refine ga_i2l C.1 dL_law_1000 ?_
    refine ga_lcmp C.1 dL_law_1001 ?_
    refine ga_if_eq C.1 dL_law_1002 (tgt := 1007) (by decide) (fun c3 => ?_) (fun c3 => absurd (lg_cmp_same (hk3 c2)) c3)
    refine ga_goto C.1 dL_law_1007 (tgt := 2278) (by decide) ?_
    exact hend _ _ _ _ _ hk2
set_option maxRecDepth 100000 in
set_option maxHeartbeats 4000000 in
theorem lcase_include {g : wG} {Gr : rG} {X : rX} {b L : Nat} {xs : Nat → Int32} {Q : State → Prop} {o i : Nat} {Inv Inv2 : cS → rS → Prop} {z : cS} {S : rS} {f : Nat → Int64} {kc ks : Nat} (C : lC g Gr X b L xs) (hin : ∀ c : Nat, c < 6 → vp_in (nI i + nI c) L) (hI : Inv z S) (hO : ∀ z S, Inv z S → ∃ n, z.1 o = some (6, n)) (hsim : sim_include o Inv Inv2) (hk : kc + 100 ≤ 601024) (hs : ks + 14000 ≤ 7293034)
    (hend : ∀ z' S' f' k5 k6, Inv2 z' S' → gAW X (lR g Gr X.2.2.2.2.1.heap.size) (lA X.2.2.2.2.1.heap.size) Q 7 2278 [some (.ref b), some (.ref o), some (.ref Gr.2.2.2.1), some (.ref g.2.1), some (.int (nI i)), k5, k6] [] (z', S', f') (kc + 100) (ks + 14000)) : gAW X (lR g Gr X.2.2.2.2.1.heap.size) (lA X.2.2.2.2.1.heap.size) Q 7 1010 [some (.ref b), some (.ref o), some (.ref Gr.2.2.2.1), some (.ref g.2.1), some (.int (nI i)), none, none] [] (z, S, f) kc ks := by
  obtain ⟨n0, hq⟩ := hO z S hI
  refine ga_aload_n C.1 dL_law_1010 rfl rfl ?_
  refine ga_aload_n C.1 dL_law_1011 rfl rfl ?_
  refine ga_iload C.1 dL_law_1012 rfl ?_
  refine ga_iconst C.1 dL_law_1014 (v := 1) (by decide) ?_
  refine ga_iadd C.1 dL_law_1015 ?_
  refine la_sld C dL_law_1016 (hin 1 (by decide)) ?_
  obtain ⟨P, hsp, hE, v, S1, hv, hl, hr⟩ := hsim z S (xs (nI i + 1).toNatClampNeg) hI
  refine ga_aload_n C.1 dL_law_1017 rfl rfl ?_
  refine la_callW C dL_law_1018 (fun sz => wM_include (C.2.2.2.2.2.2.2.2.2.2.2.2.1) hq hsp hE) rfl lL_162 lT_L_include tL_init lC_L_include lH_L_include (by decide) (by decide) (Nat.le_of_ble_eq_true rfl) hk hs (fun k w2 hF => ?_)
  refine ga_istore C.1 dL_law_1021 (by decide) ?_
  refine ga_aload_n C.1 dL_law_1023 rfl rfl ?_
  refine ga_aload_n C.1 dL_law_1024 rfl rfl ?_
  refine ga_iload C.1 dL_law_1025 rfl ?_
  refine ga_iconst C.1 dL_law_1027 (v := 1) (by decide) ?_
  refine ga_iadd C.1 dL_law_1028 ?_
  refine la_sld C dL_law_1029 (hin 1 (by decide)) ?_
  refine la_callR C dL_law_1030 (mX7_include hv) rfl lL_164 lI_X7_include lS_X7_include tX7_init lC_X7_include lH_X7_include (by decide) (by decide) (Nat.le_of_ble_eq_true rfl) (by omega) (by omega) ?_
  refine ga_istore C.1 dL_law_1033 (by decide) ?_
  refine ga_aload_n C.1 dL_law_1035 rfl rfl ?_
  refine la_callR C dL_law_1036 (mX7_thrown (r := (S1.1 54, S1)) rfl) rfl lL_122 lI_X7_thrown lS_X7_thrown tX7_init lC_X7_thrown lH_X7_thrown (by decide) (by decide) (Nat.le_of_ble_eq_true rfl) (by omega) (by omega) ?_
  refine ga_iload C.1 dL_law_1039 rfl ?_
  have hkk : S1.1 54 = k ∧ Inv2 w2.1 S1 ∧ (k = 0 → w2.2 0 = v.toInt64) := by
    rcases hF with ⟨w, hP, rfl, ho⟩ | ⟨e, hP, rfl⟩
    · obtain ⟨q1, rfl, q3⟩ := hl w _ hP; exact ⟨q1, q3, fun _ => ho⟩
    · obtain ⟨q1, q2⟩ := hr e _ hP; refine ⟨q1, q2, fun h => ?_⟩; rcases hE e _ hP with rfl | rfl <;> exact absurd h (by decide)
  obtain ⟨hk1, hk2, hk3⟩ := hkk
  refine ga_icmp_eq C.1 dL_law_1041 (tgt := 1046) (by decide) (fun c1 => ?_) (fun c1 => absurd hk1 c1)
  refine ga_iload C.1 dL_law_1046 rfl ?_
  refine ga_if_ne C.1 dL_law_1048 (tgt := 1063) (by decide) (fun c2 => ?_) (fun c2 => ?_)
  · refine ga_goto C.1 dL_law_1063 (tgt := 2278) (by decide) ?_
    exact hend _ _ _ _ _ hk2
  · refine ga_aload_n C.1 dL_law_1051 rfl rfl ?_
    refine ga_iconst C.1 dL_law_1052 (v := 0) (by decide) ?_
    refine la_lald C dL_law_1053 ?_
    refine ga_iload C.1 dL_law_1054 rfl ?_
    refine ga_i2l C.1 dL_law_1056 ?_
    refine ga_lcmp C.1 dL_law_1057 ?_
    refine ga_if_eq C.1 dL_law_1058 (tgt := 1063) (by decide) (fun c3 => ?_) (fun c3 => absurd (lg_cmp_same (hk3 c2)) c3)
    refine ga_goto C.1 dL_law_1063 (tgt := 2278) (by decide) ?_
    exact hend _ _ _ _ _ hk2
set_option maxRecDepth 100000 in
set_option maxHeartbeats 4000000 in
theorem lcase_signature {g : wG} {Gr : rG} {X : rX} {b L : Nat} {xs : Nat → Int32} {Q : State → Prop} {o i : Nat} {Inv Inv2 : cS → rS → Prop} {z : cS} {S : rS} {f : Nat → Int64} {kc ks : Nat} (C : lC g Gr X b L xs) (hin : ∀ c : Nat, c < 6 → vp_in (nI i + nI c) L) (hI : Inv z S) (hO : ∀ z S, Inv z S → ∃ n, z.1 o = some (6, n)) (hsim : sim_signature o Inv Inv2) (hk : kc + 100 ≤ 601024) (hs : ks + 14000 ≤ 7293034)
    (hend : ∀ z' S' f' k5 k6, Inv2 z' S' → gAW X (lR g Gr X.2.2.2.2.1.heap.size) (lA X.2.2.2.2.1.heap.size) Q 7 2278 [some (.ref b), some (.ref o), some (.ref Gr.2.2.2.1), some (.ref g.2.1), some (.int (nI i)), k5, k6] [] (z', S', f') (kc + 100) (ks + 14000)) : gAW X (lR g Gr X.2.2.2.2.1.heap.size) (lA X.2.2.2.2.1.heap.size) Q 7 1066 [some (.ref b), some (.ref o), some (.ref Gr.2.2.2.1), some (.ref g.2.1), some (.int (nI i)), none, none] [] (z, S, f) kc ks := by
  obtain ⟨n0, hq⟩ := hO z S hI
  refine ga_aload_n C.1 dL_law_1066 rfl rfl ?_
  obtain ⟨P, hsp, hE, v, S1, hv, hl, hr⟩ := hsim z S hI
  refine ga_aload_n C.1 dL_law_1067 rfl rfl ?_
  refine la_callW C dL_law_1068 (fun sz => wM_signature (C.2.2.2.2.2.2.2.2.2.2.2.2.1) hq hsp hE) rfl lL_165 lT_L_signature tL_init lC_L_signature lH_L_signature (by decide) (by decide) (Nat.le_of_ble_eq_true rfl) hk hs (fun k w2 hF => ?_)
  refine ga_istore C.1 dL_law_1071 (by decide) ?_
  refine ga_aload_n C.1 dL_law_1073 rfl rfl ?_
  refine la_callR C dL_law_1074 (mX7_signature hv) rfl lL_167 lI_X7_signature lS_X7_signature tX7_init lC_X7_signature lH_X7_signature (by decide) (by decide) (Nat.le_of_ble_eq_true rfl) (by omega) (by omega) ?_
  refine ga_istore C.1 dL_law_1077 (by decide) ?_
  refine ga_aload_n C.1 dL_law_1079 rfl rfl ?_
  refine la_callR C dL_law_1080 (mX7_thrown (r := (S1.1 54, S1)) rfl) rfl lL_122 lI_X7_thrown lS_X7_thrown tX7_init lC_X7_thrown lH_X7_thrown (by decide) (by decide) (Nat.le_of_ble_eq_true rfl) (by omega) (by omega) ?_
  refine ga_iload C.1 dL_law_1083 rfl ?_
  have hkk : S1.1 54 = k ∧ Inv2 w2.1 S1 ∧ (k = 0 → w2.2 0 = v.toInt64) := by
    rcases hF with ⟨w, hP, rfl, ho⟩ | ⟨e, hP, rfl⟩
    · obtain ⟨q1, rfl, q3⟩ := hl w _ hP; exact ⟨q1, q3, fun _ => ho⟩
    · obtain ⟨q1, q2⟩ := hr e _ hP; refine ⟨q1, q2, fun h => ?_⟩; obtain rfl := hE e _ hP; exact absurd h (by decide)
  obtain ⟨hk1, hk2, hk3⟩ := hkk
  refine ga_icmp_eq C.1 dL_law_1085 (tgt := 1090) (by decide) (fun c1 => ?_) (fun c1 => absurd hk1 c1)
  refine ga_iload C.1 dL_law_1090 rfl ?_
  refine ga_if_ne C.1 dL_law_1092 (tgt := 1107) (by decide) (fun c2 => ?_) (fun c2 => ?_)
  · refine ga_goto C.1 dL_law_1107 (tgt := 2278) (by decide) ?_
    exact hend _ _ _ _ _ hk2
  · refine ga_aload_n C.1 dL_law_1095 rfl rfl ?_
    refine ga_iconst C.1 dL_law_1096 (v := 0) (by decide) ?_
    refine la_lald C dL_law_1097 ?_
    refine ga_iload C.1 dL_law_1098 rfl ?_
    refine ga_i2l C.1 dL_law_1100 ?_
    refine ga_lcmp C.1 dL_law_1101 ?_
    refine ga_if_eq C.1 dL_law_1102 (tgt := 1107) (by decide) (fun c3 => ?_) (fun c3 => absurd (lg_cmp_same (hk3 c2)) c3)
    refine ga_goto C.1 dL_law_1107 (tgt := 2278) (by decide) ?_
    exact hend _ _ _ _ _ hk2
set_option maxRecDepth 100000 in
set_option maxHeartbeats 4000000 in
theorem lcase_with {g : wG} {Gr : rG} {X : rX} {b L : Nat} {xs : Nat → Int32} {Q : State → Prop} {o i : Nat} {Inv Inv2 : cS → rS → Prop} {z : cS} {S : rS} {f : Nat → Int64} {kc ks : Nat} (C : lC g Gr X b L xs) (hin : ∀ c : Nat, c < 6 → vp_in (nI i + nI c) L) (hI : Inv z S) (hO : ∀ z S, Inv z S → ∃ n, z.1 o = some (6, n)) (hsim : sim_with o Inv Inv2) (hk : kc + 100 ≤ 601024) (hs : ks + 14000 ≤ 7293034)
    (hend : ∀ z' S' f' k5 k6, Inv2 z' S' → gAW X (lR g Gr X.2.2.2.2.1.heap.size) (lA X.2.2.2.2.1.heap.size) Q 7 2278 [some (.ref b), some (.ref o), some (.ref Gr.2.2.2.1), some (.ref g.2.1), some (.int (nI i)), k5, k6] [] (z', S', f') (kc + 100) (ks + 14000)) : gAW X (lR g Gr X.2.2.2.2.1.heap.size) (lA X.2.2.2.2.1.heap.size) Q 7 1110 [some (.ref b), some (.ref o), some (.ref Gr.2.2.2.1), some (.ref g.2.1), some (.int (nI i)), none, none] [] (z, S, f) kc ks := by
  obtain ⟨n0, hq⟩ := hO z S hI
  refine ga_aload_n C.1 dL_law_1110 rfl rfl ?_
  refine ga_aload_n C.1 dL_law_1111 rfl rfl ?_
  refine ga_iload C.1 dL_law_1112 rfl ?_
  refine ga_iconst C.1 dL_law_1114 (v := 1) (by decide) ?_
  refine ga_iadd C.1 dL_law_1115 ?_
  refine la_sld C dL_law_1116 (hin 1 (by decide)) ?_
  refine ga_aload_n C.1 dL_law_1117 rfl rfl ?_
  refine ga_iload C.1 dL_law_1118 rfl ?_
  refine ga_iconst C.1 dL_law_1120 (v := 2) (by decide) ?_
  refine ga_iadd C.1 dL_law_1121 ?_
  refine la_sld C dL_law_1122 (hin 2 (by decide)) ?_
  refine ga_aload_n C.1 dL_law_1123 rfl rfl ?_
  refine ga_iload C.1 dL_law_1124 rfl ?_
  refine ga_iconst C.1 dL_law_1126 (v := 3) (by decide) ?_
  refine ga_iadd C.1 dL_law_1127 ?_
  refine la_sld C dL_law_1128 (hin 3 (by decide)) ?_
  refine ga_aload_n C.1 dL_law_1129 rfl rfl ?_
  refine ga_iload C.1 dL_law_1130 rfl ?_
  refine ga_iconst C.1 dL_law_1132 (v := 4) (by decide) ?_
  refine ga_iadd C.1 dL_law_1133 ?_
  refine la_sld C dL_law_1134 (hin 4 (by decide)) ?_
  refine ga_bool C.1 (t1 := 1142) (t2 := 1143) dL_law_1135 (by decide) dL_law_1138 dL_law_1139 (by decide) dL_law_1142 rfl ?_
  obtain ⟨P, hsp, hE, v, S1, hv, hl, hr⟩ := hsim z S (xs (nI i + 1).toNatClampNeg) (xs (nI i + 2).toNatClampNeg) (xs (nI i + 3).toNatClampNeg) (if (xs (nI i + 4).toNatClampNeg) = 0 then 0 else 1) (by split <;> simp) hI
  refine ga_aload_n C.1 dL_law_1143 rfl rfl ?_
  refine la_callW C dL_law_1144 (fun sz => wM_with (C.2.2.2.2.2.2.2.2.2.2.2.2.1) hq hsp hE) rfl lL_168 lT_L_with tL_init lC_L_with lH_L_with (by decide) (by decide) (Nat.le_of_ble_eq_true rfl) hk hs (fun k w2 hF => ?_)
  refine ga_istore C.1 dL_law_1147 (by decide) ?_
  refine ga_aload_n C.1 dL_law_1149 rfl rfl ?_
  refine ga_aload_n C.1 dL_law_1150 rfl rfl ?_
  refine ga_iload C.1 dL_law_1151 rfl ?_
  refine ga_iconst C.1 dL_law_1153 (v := 1) (by decide) ?_
  refine ga_iadd C.1 dL_law_1154 ?_
  refine la_sld C dL_law_1155 (hin 1 (by decide)) ?_
  refine ga_aload_n C.1 dL_law_1156 rfl rfl ?_
  refine ga_iload C.1 dL_law_1157 rfl ?_
  refine ga_iconst C.1 dL_law_1159 (v := 2) (by decide) ?_
  refine ga_iadd C.1 dL_law_1160 ?_
  refine la_sld C dL_law_1161 (hin 2 (by decide)) ?_
  refine ga_aload_n C.1 dL_law_1162 rfl rfl ?_
  refine ga_iload C.1 dL_law_1163 rfl ?_
  refine ga_iconst C.1 dL_law_1165 (v := 3) (by decide) ?_
  refine ga_iadd C.1 dL_law_1166 ?_
  refine la_sld C dL_law_1167 (hin 3 (by decide)) ?_
  refine ga_aload_n C.1 dL_law_1168 rfl rfl ?_
  refine ga_iload C.1 dL_law_1169 rfl ?_
  refine ga_iconst C.1 dL_law_1171 (v := 4) (by decide) ?_
  refine ga_iadd C.1 dL_law_1172 ?_
  refine la_sld C dL_law_1173 (hin 4 (by decide)) ?_
  refine ga_bool C.1 (t1 := 1181) (t2 := 1182) dL_law_1174 (by decide) dL_law_1177 dL_law_1178 (by decide) dL_law_1181 rfl ?_
  refine la_callR C dL_law_1182 (mX7_with hv) rfl lL_171 lI_X7_with lS_X7_with tX7_init lC_X7_with lH_X7_with (by decide) (by decide) (Nat.le_of_ble_eq_true rfl) (by omega) (by omega) ?_
  refine ga_istore C.1 dL_law_1185 (by decide) ?_
  refine ga_aload_n C.1 dL_law_1187 rfl rfl ?_
  refine la_callR C dL_law_1188 (mX7_thrown (r := (S1.1 54, S1)) rfl) rfl lL_122 lI_X7_thrown lS_X7_thrown tX7_init lC_X7_thrown lH_X7_thrown (by decide) (by decide) (Nat.le_of_ble_eq_true rfl) (by omega) (by omega) ?_
  refine ga_iload C.1 dL_law_1191 rfl ?_
  have hkk : S1.1 54 = k ∧ Inv2 w2.1 S1 ∧ (k = 0 → w2.2 0 = v.toInt64) := by
    rcases hF with ⟨w, hP, rfl, ho⟩ | ⟨e, hP, rfl⟩
    · obtain ⟨q1, rfl, q3⟩ := hl w _ hP; exact ⟨q1, q3, fun _ => ho⟩
    · obtain ⟨q1, q2⟩ := hr e _ hP; refine ⟨q1, q2, fun h => ?_⟩; rcases hE e _ hP with rfl | rfl <;> exact absurd h (by decide)
  obtain ⟨hk1, hk2, hk3⟩ := hkk
  refine ga_icmp_eq C.1 dL_law_1193 (tgt := 1198) (by decide) (fun c1 => ?_) (fun c1 => absurd hk1 c1)
  refine ga_iload C.1 dL_law_1198 rfl ?_
  refine ga_if_ne C.1 dL_law_1200 (tgt := 1215) (by decide) (fun c2 => ?_) (fun c2 => ?_)
  · refine ga_goto C.1 dL_law_1215 (tgt := 2278) (by decide) ?_
    exact hend _ _ _ _ _ hk2
  · refine ga_aload_n C.1 dL_law_1203 rfl rfl ?_
    refine ga_iconst C.1 dL_law_1204 (v := 0) (by decide) ?_
    refine la_lald C dL_law_1205 ?_
    refine ga_iload C.1 dL_law_1206 rfl ?_
    refine ga_i2l C.1 dL_law_1208 ?_
    refine ga_lcmp C.1 dL_law_1209 ?_
    refine ga_if_eq C.1 dL_law_1210 (tgt := 1215) (by decide) (fun c3 => ?_) (fun c3 => absurd (lg_cmp_same (hk3 c2)) c3)
    refine ga_goto C.1 dL_law_1215 (tgt := 2278) (by decide) ?_
    exact hend _ _ _ _ _ hk2
set_option maxRecDepth 100000 in
set_option maxHeartbeats 4000000 in
theorem lcase_specs {g : wG} {Gr : rG} {X : rX} {b L : Nat} {xs : Nat → Int32} {Q : State → Prop} {o i : Nat} {Inv Inv2 : cS → rS → Prop} {z : cS} {S : rS} {f : Nat → Int64} {kc ks : Nat} (C : lC g Gr X b L xs) (hin : ∀ c : Nat, c < 6 → vp_in (nI i + nI c) L) (hI : Inv z S) (hO : ∀ z S, Inv z S → ∃ n, z.1 o = some (6, n)) (hsim : sim_specs o Inv Inv2) (hk : kc + 100 ≤ 601024) (hs : ks + 14000 ≤ 7293034)
    (hend : ∀ z' S' f' k5 k6, Inv2 z' S' → gAW X (lR g Gr X.2.2.2.2.1.heap.size) (lA X.2.2.2.2.1.heap.size) Q 7 2278 [some (.ref b), some (.ref o), some (.ref Gr.2.2.2.1), some (.ref g.2.1), some (.int (nI i)), k5, k6] [] (z', S', f') (kc + 100) (ks + 14000)) : gAW X (lR g Gr X.2.2.2.2.1.heap.size) (lA X.2.2.2.2.1.heap.size) Q 7 1218 [some (.ref b), some (.ref o), some (.ref Gr.2.2.2.1), some (.ref g.2.1), some (.int (nI i)), none, none] [] (z, S, f) kc ks := by
  obtain ⟨n0, hq⟩ := hO z S hI
  refine ga_aload_n C.1 dL_law_1218 rfl rfl ?_
  refine ga_aload_n C.1 dL_law_1219 rfl rfl ?_
  refine ga_iload C.1 dL_law_1220 rfl ?_
  refine ga_iconst C.1 dL_law_1222 (v := 1) (by decide) ?_
  refine ga_iadd C.1 dL_law_1223 ?_
  refine la_sld C dL_law_1224 (hin 1 (by decide)) ?_
  obtain ⟨P, hsp, hE, v, S1, hv, hl, hr⟩ := hsim z S (xs (nI i + 1).toNatClampNeg) hI
  refine ga_aload_n C.1 dL_law_1225 rfl rfl ?_
  refine la_callW C dL_law_1226 (fun sz => wM_specs (C.2.2.2.2.2.2.2.2.2.2.2.2.1) hq hsp hE) rfl lL_172 lT_L_specs tL_init lC_L_specs lH_L_specs (by decide) (by decide) (Nat.le_of_ble_eq_true rfl) hk hs (fun k w2 hF => ?_)
  refine ga_istore C.1 dL_law_1229 (by decide) ?_
  refine ga_aload_n C.1 dL_law_1231 rfl rfl ?_
  refine ga_aload_n C.1 dL_law_1232 rfl rfl ?_
  refine ga_iload C.1 dL_law_1233 rfl ?_
  refine ga_iconst C.1 dL_law_1235 (v := 1) (by decide) ?_
  refine ga_iadd C.1 dL_law_1236 ?_
  refine la_sld C dL_law_1237 (hin 1 (by decide)) ?_
  refine la_callR C dL_law_1238 (mX7_specs hv) rfl lL_174 lI_X7_specs lS_X7_specs tX7_init lC_X7_specs lH_X7_specs (by decide) (by decide) (Nat.le_of_ble_eq_true rfl) (by omega) (by omega) ?_
  refine ga_istore C.1 dL_law_1241 (by decide) ?_
  refine ga_aload_n C.1 dL_law_1243 rfl rfl ?_
  refine la_callR C dL_law_1244 (mX7_thrown (r := (S1.1 54, S1)) rfl) rfl lL_122 lI_X7_thrown lS_X7_thrown tX7_init lC_X7_thrown lH_X7_thrown (by decide) (by decide) (Nat.le_of_ble_eq_true rfl) (by omega) (by omega) ?_
  refine ga_iload C.1 dL_law_1247 rfl ?_
  have hkk : S1.1 54 = k ∧ Inv2 w2.1 S1 ∧ (k = 0 → w2.2 0 = v.toInt64) := by
    rcases hF with ⟨w, hP, rfl, ho⟩ | ⟨e, hP, rfl⟩
    · obtain ⟨q1, rfl, q3⟩ := hl w _ hP; exact ⟨q1, q3, fun _ => ho⟩
    · obtain ⟨q1, q2⟩ := hr e _ hP; refine ⟨q1, q2, fun h => ?_⟩; obtain rfl := hE e _ hP; exact absurd h (by decide)
  obtain ⟨hk1, hk2, hk3⟩ := hkk
  refine ga_icmp_eq C.1 dL_law_1249 (tgt := 1254) (by decide) (fun c1 => ?_) (fun c1 => absurd hk1 c1)
  refine ga_iload C.1 dL_law_1254 rfl ?_
  refine ga_if_ne C.1 dL_law_1256 (tgt := 1271) (by decide) (fun c2 => ?_) (fun c2 => ?_)
  · refine ga_goto C.1 dL_law_1271 (tgt := 2278) (by decide) ?_
    exact hend _ _ _ _ _ hk2
  · refine ga_aload_n C.1 dL_law_1259 rfl rfl ?_
    refine ga_iconst C.1 dL_law_1260 (v := 0) (by decide) ?_
    refine la_lald C dL_law_1261 ?_
    refine ga_iload C.1 dL_law_1262 rfl ?_
    refine ga_i2l C.1 dL_law_1264 ?_
    refine ga_lcmp C.1 dL_law_1265 ?_
    refine ga_if_eq C.1 dL_law_1266 (tgt := 1271) (by decide) (fun c3 => ?_) (fun c3 => absurd (lg_cmp_same (hk3 c2)) c3)
    refine ga_goto C.1 dL_law_1271 (tgt := 2278) (by decide) ?_
    exact hend _ _ _ _ _ hk2
set_option maxRecDepth 100000 in
set_option maxHeartbeats 4000000 in
theorem lcase_match {g : wG} {Gr : rG} {X : rX} {b L : Nat} {xs : Nat → Int32} {Q : State → Prop} {o i : Nat} {Inv Inv2 : cS → rS → Prop} {z : cS} {S : rS} {f : Nat → Int64} {kc ks : Nat} (C : lC g Gr X b L xs) (hin : ∀ c : Nat, c < 6 → vp_in (nI i + nI c) L) (hI : Inv z S) (hO : ∀ z S, Inv z S → ∃ n, z.1 o = some (6, n)) (hsim : sim_match o Inv Inv2) (hk : kc + 100 ≤ 601024) (hs : ks + 14000 ≤ 7293034)
    (hend : ∀ z' S' f' k5 k6, Inv2 z' S' → gAW X (lR g Gr X.2.2.2.2.1.heap.size) (lA X.2.2.2.2.1.heap.size) Q 7 2278 [some (.ref b), some (.ref o), some (.ref Gr.2.2.2.1), some (.ref g.2.1), some (.int (nI i)), k5, k6] [] (z', S', f') (kc + 100) (ks + 14000)) : gAW X (lR g Gr X.2.2.2.2.1.heap.size) (lA X.2.2.2.2.1.heap.size) Q 7 1274 [some (.ref b), some (.ref o), some (.ref Gr.2.2.2.1), some (.ref g.2.1), some (.int (nI i)), none, none] [] (z, S, f) kc ks := by
  obtain ⟨n0, hq⟩ := hO z S hI
  refine ga_aload_n C.1 dL_law_1274 rfl rfl ?_
  refine ga_aload_n C.1 dL_law_1275 rfl rfl ?_
  refine ga_iload C.1 dL_law_1276 rfl ?_
  refine ga_iconst C.1 dL_law_1278 (v := 1) (by decide) ?_
  refine ga_iadd C.1 dL_law_1279 ?_
  refine la_sld C dL_law_1280 (hin 1 (by decide)) ?_
  refine ga_aload_n C.1 dL_law_1281 rfl rfl ?_
  refine ga_iload C.1 dL_law_1282 rfl ?_
  refine ga_iconst C.1 dL_law_1284 (v := 2) (by decide) ?_
  refine ga_iadd C.1 dL_law_1285 ?_
  refine la_sld C dL_law_1286 (hin 2 (by decide)) ?_
  obtain ⟨P, hsp, hE, v, S1, hv, hl, hr⟩ := hsim z S (xs (nI i + 1).toNatClampNeg) (xs (nI i + 2).toNatClampNeg) hI
  refine ga_aload_n C.1 dL_law_1287 rfl rfl ?_
  refine la_callW C dL_law_1288 (fun sz => wM_match (C.2.2.2.2.2.2.2.2.2.2.2.2.1) hq hsp hE) rfl lL_175 lT_L_match tL_init lC_L_match lH_L_match (by decide) (by decide) (Nat.le_of_ble_eq_true rfl) hk hs (fun k w2 hF => ?_)
  refine ga_istore C.1 dL_law_1291 (by decide) ?_
  refine ga_aload_n C.1 dL_law_1293 rfl rfl ?_
  refine ga_aload_n C.1 dL_law_1294 rfl rfl ?_
  refine ga_iload C.1 dL_law_1295 rfl ?_
  refine ga_iconst C.1 dL_law_1297 (v := 1) (by decide) ?_
  refine ga_iadd C.1 dL_law_1298 ?_
  refine la_sld C dL_law_1299 (hin 1 (by decide)) ?_
  refine ga_aload_n C.1 dL_law_1300 rfl rfl ?_
  refine ga_iload C.1 dL_law_1301 rfl ?_
  refine ga_iconst C.1 dL_law_1303 (v := 2) (by decide) ?_
  refine ga_iadd C.1 dL_law_1304 ?_
  refine la_sld C dL_law_1305 (hin 2 (by decide)) ?_
  refine la_callR C dL_law_1306 (mX7_match hv) rfl lL_177 lI_X7_match lS_X7_match tX7_init lC_X7_match lH_X7_match (by decide) (by decide) (Nat.le_of_ble_eq_true rfl) (by omega) (by omega) ?_
  refine ga_istore C.1 dL_law_1309 (by decide) ?_
  refine ga_aload_n C.1 dL_law_1311 rfl rfl ?_
  refine la_callR C dL_law_1312 (mX7_thrown (r := (S1.1 54, S1)) rfl) rfl lL_122 lI_X7_thrown lS_X7_thrown tX7_init lC_X7_thrown lH_X7_thrown (by decide) (by decide) (Nat.le_of_ble_eq_true rfl) (by omega) (by omega) ?_
  refine ga_iload C.1 dL_law_1315 rfl ?_
  have hkk : S1.1 54 = k ∧ Inv2 w2.1 S1 ∧ (k = 0 → w2.2 0 = v.toInt64) := by
    rcases hF with ⟨w, hP, rfl, ho⟩ | ⟨e, hP, rfl⟩
    · obtain ⟨q1, rfl, q3⟩ := hl w _ hP; exact ⟨q1, q3, fun _ => ho⟩
    · obtain ⟨q1, q2⟩ := hr e _ hP; refine ⟨q1, q2, fun h => ?_⟩; obtain rfl := hE e _ hP; exact absurd h (by decide)
  obtain ⟨hk1, hk2, hk3⟩ := hkk
  refine ga_icmp_eq C.1 dL_law_1317 (tgt := 1322) (by decide) (fun c1 => ?_) (fun c1 => absurd hk1 c1)
  refine ga_iload C.1 dL_law_1322 rfl ?_
  refine ga_if_ne C.1 dL_law_1324 (tgt := 1339) (by decide) (fun c2 => ?_) (fun c2 => ?_)
  · refine ga_goto C.1 dL_law_1339 (tgt := 2278) (by decide) ?_
    exact hend _ _ _ _ _ hk2
  · refine ga_aload_n C.1 dL_law_1327 rfl rfl ?_
    refine ga_iconst C.1 dL_law_1328 (v := 0) (by decide) ?_
    refine la_lald C dL_law_1329 ?_
    refine ga_iload C.1 dL_law_1330 rfl ?_
    refine ga_i2l C.1 dL_law_1332 ?_
    refine ga_lcmp C.1 dL_law_1333 ?_
    refine ga_if_eq C.1 dL_law_1334 (tgt := 1339) (by decide) (fun c3 => ?_) (fun c3 => absurd (lg_cmp_same (hk3 c2)) c3)
    refine ga_goto C.1 dL_law_1339 (tgt := 2278) (by decide) ?_
    exact hend _ _ _ _ _ hk2
set_option maxRecDepth 100000 in
set_option maxHeartbeats 4000000 in
theorem lcase_seal {g : wG} {Gr : rG} {X : rX} {b L : Nat} {xs : Nat → Int32} {Q : State → Prop} {o i : Nat} {Inv Inv2 : cS → rS → Prop} {z : cS} {S : rS} {f : Nat → Int64} {kc ks : Nat} (C : lC g Gr X b L xs) (hin : ∀ c : Nat, c < 6 → vp_in (nI i + nI c) L) (hI : Inv z S) (hO : ∀ z S, Inv z S → ∃ n, z.1 o = some (6, n)) (hsim : sim_seal o Inv Inv2) (hk : kc + 100 ≤ 601024) (hs : ks + 14000 ≤ 7293034)
    (hend : ∀ z' S' f' k5 k6, Inv2 z' S' → gAW X (lR g Gr X.2.2.2.2.1.heap.size) (lA X.2.2.2.2.1.heap.size) Q 7 2278 [some (.ref b), some (.ref o), some (.ref Gr.2.2.2.1), some (.ref g.2.1), some (.int (nI i)), k5, k6] [] (z', S', f') (kc + 100) (ks + 14000)) : gAW X (lR g Gr X.2.2.2.2.1.heap.size) (lA X.2.2.2.2.1.heap.size) Q 7 1342 [some (.ref b), some (.ref o), some (.ref Gr.2.2.2.1), some (.ref g.2.1), some (.int (nI i)), none, none] [] (z, S, f) kc ks := by
  obtain ⟨n0, hq⟩ := hO z S hI
  refine ga_aload_n C.1 dL_law_1342 rfl rfl ?_
  refine ga_aload_n C.1 dL_law_1343 rfl rfl ?_
  refine ga_iload C.1 dL_law_1344 rfl ?_
  refine ga_iconst C.1 dL_law_1346 (v := 1) (by decide) ?_
  refine ga_iadd C.1 dL_law_1347 ?_
  refine la_sld C dL_law_1348 (hin 1 (by decide)) ?_
  refine ga_aload_n C.1 dL_law_1349 rfl rfl ?_
  refine ga_iload C.1 dL_law_1350 rfl ?_
  refine ga_iconst C.1 dL_law_1352 (v := 2) (by decide) ?_
  refine ga_iadd C.1 dL_law_1353 ?_
  refine la_sld C dL_law_1354 (hin 2 (by decide)) ?_
  obtain ⟨P, hsp, hE, v, S1, hv, hl, hr⟩ := hsim z S (xs (nI i + 1).toNatClampNeg) (xs (nI i + 2).toNatClampNeg) hI
  refine ga_aload_n C.1 dL_law_1355 rfl rfl ?_
  refine la_callW C dL_law_1356 (fun sz => wM_seal (C.2.2.2.2.2.2.2.2.2.2.2.2.1) hq hsp hE) rfl lL_178 lT_L_seal tL_init lC_L_seal lH_L_seal (by decide) (by decide) (Nat.le_of_ble_eq_true rfl) hk hs (fun k w2 hF => ?_)
  refine ga_istore C.1 dL_law_1359 (by decide) ?_
  refine ga_aload_n C.1 dL_law_1361 rfl rfl ?_
  refine ga_aload_n C.1 dL_law_1362 rfl rfl ?_
  refine ga_iload C.1 dL_law_1363 rfl ?_
  refine ga_iconst C.1 dL_law_1365 (v := 1) (by decide) ?_
  refine ga_iadd C.1 dL_law_1366 ?_
  refine la_sld C dL_law_1367 (hin 1 (by decide)) ?_
  refine ga_aload_n C.1 dL_law_1368 rfl rfl ?_
  refine ga_iload C.1 dL_law_1369 rfl ?_
  refine ga_iconst C.1 dL_law_1371 (v := 2) (by decide) ?_
  refine ga_iadd C.1 dL_law_1372 ?_
  refine la_sld C dL_law_1373 (hin 2 (by decide)) ?_
  refine la_callR C dL_law_1374 (mX7_seal hv) rfl lL_180 lI_X7_seal lS_X7_seal tX7_init lC_X7_seal lH_X7_seal (by decide) (by decide) (Nat.le_of_ble_eq_true rfl) (by omega) (by omega) ?_
  refine ga_istore C.1 dL_law_1377 (by decide) ?_
  refine ga_aload_n C.1 dL_law_1379 rfl rfl ?_
  refine la_callR C dL_law_1380 (mX7_thrown (r := (S1.1 54, S1)) rfl) rfl lL_122 lI_X7_thrown lS_X7_thrown tX7_init lC_X7_thrown lH_X7_thrown (by decide) (by decide) (Nat.le_of_ble_eq_true rfl) (by omega) (by omega) ?_
  refine ga_iload C.1 dL_law_1383 rfl ?_
  have hkk : S1.1 54 = k ∧ Inv2 w2.1 S1 ∧ (k = 0 → w2.2 0 = v.toInt64) := by
    rcases hF with ⟨w, hP, rfl, ho⟩ | ⟨e, hP, rfl⟩
    · obtain ⟨q1, rfl, q3⟩ := hl w _ hP; exact ⟨q1, q3, fun _ => ho⟩
    · obtain ⟨q1, q2⟩ := hr e _ hP; refine ⟨q1, q2, fun h => ?_⟩; rcases hE e _ hP with rfl | rfl <;> exact absurd h (by decide)
  obtain ⟨hk1, hk2, hk3⟩ := hkk
  refine ga_icmp_eq C.1 dL_law_1385 (tgt := 1390) (by decide) (fun c1 => ?_) (fun c1 => absurd hk1 c1)
  refine ga_iload C.1 dL_law_1390 rfl ?_
  refine ga_if_ne C.1 dL_law_1392 (tgt := 1407) (by decide) (fun c2 => ?_) (fun c2 => ?_)
  · refine ga_goto C.1 dL_law_1407 (tgt := 2278) (by decide) ?_
    exact hend _ _ _ _ _ hk2
  · refine ga_aload_n C.1 dL_law_1395 rfl rfl ?_
    refine ga_iconst C.1 dL_law_1396 (v := 0) (by decide) ?_
    refine la_lald C dL_law_1397 ?_
    refine ga_iload C.1 dL_law_1398 rfl ?_
    refine ga_i2l C.1 dL_law_1400 ?_
    refine ga_lcmp C.1 dL_law_1401 ?_
    refine ga_if_eq C.1 dL_law_1402 (tgt := 1407) (by decide) (fun c3 => ?_) (fun c3 => absurd (lg_cmp_same (hk3 c2)) c3)
    refine ga_goto C.1 dL_law_1407 (tgt := 2278) (by decide) ?_
    exact hend _ _ _ _ _ hk2
set_option maxRecDepth 100000 in
set_option maxHeartbeats 4000000 in
theorem lcase_view {g : wG} {Gr : rG} {X : rX} {b L : Nat} {xs : Nat → Int32} {Q : State → Prop} {o i : Nat} {Inv Inv2 : cS → rS → Prop} {z : cS} {S : rS} {f : Nat → Int64} {kc ks : Nat} (C : lC g Gr X b L xs) (hin : ∀ c : Nat, c < 6 → vp_in (nI i + nI c) L) (hI : Inv z S) (hO : ∀ z S, Inv z S → ∃ n, z.1 o = some (6, n)) (hsim : sim_view o Inv Inv2) (hk : kc + 100 ≤ 601024) (hs : ks + 14000 ≤ 7293034)
    (hend : ∀ z' S' f' k5 k6, Inv2 z' S' → gAW X (lR g Gr X.2.2.2.2.1.heap.size) (lA X.2.2.2.2.1.heap.size) Q 7 2278 [some (.ref b), some (.ref o), some (.ref Gr.2.2.2.1), some (.ref g.2.1), some (.int (nI i)), k5, k6] [] (z', S', f') (kc + 100) (ks + 14000)) : gAW X (lR g Gr X.2.2.2.2.1.heap.size) (lA X.2.2.2.2.1.heap.size) Q 7 1410 [some (.ref b), some (.ref o), some (.ref Gr.2.2.2.1), some (.ref g.2.1), some (.int (nI i)), none, none] [] (z, S, f) kc ks := by
  obtain ⟨n0, hq⟩ := hO z S hI
  refine ga_aload_n C.1 dL_law_1410 rfl rfl ?_
  refine ga_aload_n C.1 dL_law_1411 rfl rfl ?_
  refine ga_iload C.1 dL_law_1412 rfl ?_
  refine ga_iconst C.1 dL_law_1414 (v := 1) (by decide) ?_
  refine ga_iadd C.1 dL_law_1415 ?_
  refine la_sld C dL_law_1416 (hin 1 (by decide)) ?_
  refine ga_aload_n C.1 dL_law_1417 rfl rfl ?_
  refine ga_iload C.1 dL_law_1418 rfl ?_
  refine ga_iconst C.1 dL_law_1420 (v := 2) (by decide) ?_
  refine ga_iadd C.1 dL_law_1421 ?_
  refine la_sld C dL_law_1422 (hin 2 (by decide)) ?_
  obtain ⟨P, hsp, hE, v, S1, hv, hl, hr⟩ := hsim z S (xs (nI i + 1).toNatClampNeg) (xs (nI i + 2).toNatClampNeg) hI
  refine ga_aload_n C.1 dL_law_1423 rfl rfl ?_
  refine la_callW C dL_law_1424 (fun sz => wM_view (C.2.2.2.2.2.2.2.2.2.2.2.2.1) hq hsp hE) rfl lL_181 lT_L_view tL_init lC_L_view lH_L_view (by decide) (by decide) (Nat.le_of_ble_eq_true rfl) hk hs (fun k w2 hF => ?_)
  refine ga_istore C.1 dL_law_1427 (by decide) ?_
  refine ga_aload_n C.1 dL_law_1429 rfl rfl ?_
  refine ga_aload_n C.1 dL_law_1430 rfl rfl ?_
  refine ga_iload C.1 dL_law_1431 rfl ?_
  refine ga_iconst C.1 dL_law_1433 (v := 1) (by decide) ?_
  refine ga_iadd C.1 dL_law_1434 ?_
  refine la_sld C dL_law_1435 (hin 1 (by decide)) ?_
  refine ga_aload_n C.1 dL_law_1436 rfl rfl ?_
  refine ga_iload C.1 dL_law_1437 rfl ?_
  refine ga_iconst C.1 dL_law_1439 (v := 2) (by decide) ?_
  refine ga_iadd C.1 dL_law_1440 ?_
  refine la_sld C dL_law_1441 (hin 2 (by decide)) ?_
  refine la_callR C dL_law_1442 (mX7_view hv) rfl lL_183 lI_X7_view lS_X7_view tX7_init lC_X7_view lH_X7_view (by decide) (by decide) (Nat.le_of_ble_eq_true rfl) (by omega) (by omega) ?_
  refine ga_istore C.1 dL_law_1445 (by decide) ?_
  refine ga_aload_n C.1 dL_law_1447 rfl rfl ?_
  refine la_callR C dL_law_1448 (mX7_thrown (r := (S1.1 54, S1)) rfl) rfl lL_122 lI_X7_thrown lS_X7_thrown tX7_init lC_X7_thrown lH_X7_thrown (by decide) (by decide) (Nat.le_of_ble_eq_true rfl) (by omega) (by omega) ?_
  refine ga_iload C.1 dL_law_1451 rfl ?_
  have hkk : S1.1 54 = k ∧ Inv2 w2.1 S1 ∧ (k = 0 → w2.2 0 = v.toInt64) := by
    rcases hF with ⟨w, hP, rfl, ho⟩ | ⟨e, hP, rfl⟩
    · obtain ⟨q1, rfl, q3⟩ := hl w _ hP; exact ⟨q1, q3, fun _ => ho⟩
    · obtain ⟨q1, q2⟩ := hr e _ hP; refine ⟨q1, q2, fun h => ?_⟩; rcases hE e _ hP with rfl | rfl <;> exact absurd h (by decide)
  obtain ⟨hk1, hk2, hk3⟩ := hkk
  refine ga_icmp_eq C.1 dL_law_1453 (tgt := 1458) (by decide) (fun c1 => ?_) (fun c1 => absurd hk1 c1)
  refine ga_iload C.1 dL_law_1458 rfl ?_
  refine ga_if_ne C.1 dL_law_1460 (tgt := 1475) (by decide) (fun c2 => ?_) (fun c2 => ?_)
  · refine ga_goto C.1 dL_law_1475 (tgt := 2278) (by decide) ?_
    exact hend _ _ _ _ _ hk2
  · refine ga_aload_n C.1 dL_law_1463 rfl rfl ?_
    refine ga_iconst C.1 dL_law_1464 (v := 0) (by decide) ?_
    refine la_lald C dL_law_1465 ?_
    refine ga_iload C.1 dL_law_1466 rfl ?_
    refine ga_i2l C.1 dL_law_1468 ?_
    refine ga_lcmp C.1 dL_law_1469 ?_
    refine ga_if_eq C.1 dL_law_1470 (tgt := 1475) (by decide) (fun c3 => ?_) (fun c3 => absurd (lg_cmp_same (hk3 c2)) c3)
    refine ga_goto C.1 dL_law_1475 (tgt := 2278) (by decide) ?_
    exact hend _ _ _ _ _ hk2
set_option maxRecDepth 100000 in
set_option maxHeartbeats 4000000 in
theorem lcase_finer {g : wG} {Gr : rG} {X : rX} {b L : Nat} {xs : Nat → Int32} {Q : State → Prop} {o i : Nat} {Inv Inv2 : cS → rS → Prop} {z : cS} {S : rS} {f : Nat → Int64} {kc ks : Nat} (C : lC g Gr X b L xs) (hin : ∀ c : Nat, c < 6 → vp_in (nI i + nI c) L) (hI : Inv z S) (hO : ∀ z S, Inv z S → ∃ n, z.1 o = some (6, n)) (hsim : sim_finer o Inv Inv2) (hk : kc + 100 ≤ 601024) (hs : ks + 14000 ≤ 7293034)
    (hend : ∀ z' S' f' k5 k6, Inv2 z' S' → gAW X (lR g Gr X.2.2.2.2.1.heap.size) (lA X.2.2.2.2.1.heap.size) Q 7 2278 [some (.ref b), some (.ref o), some (.ref Gr.2.2.2.1), some (.ref g.2.1), some (.int (nI i)), k5, k6] [] (z', S', f') (kc + 100) (ks + 14000)) : gAW X (lR g Gr X.2.2.2.2.1.heap.size) (lA X.2.2.2.2.1.heap.size) Q 7 1478 [some (.ref b), some (.ref o), some (.ref Gr.2.2.2.1), some (.ref g.2.1), some (.int (nI i)), none, none] [] (z, S, f) kc ks := by
  obtain ⟨n0, hq⟩ := hO z S hI
  refine ga_aload_n C.1 dL_law_1478 rfl rfl ?_
  refine ga_aload_n C.1 dL_law_1479 rfl rfl ?_
  refine ga_iload C.1 dL_law_1480 rfl ?_
  refine ga_iconst C.1 dL_law_1482 (v := 1) (by decide) ?_
  refine ga_iadd C.1 dL_law_1483 ?_
  refine la_sld C dL_law_1484 (hin 1 (by decide)) ?_
  refine ga_aload_n C.1 dL_law_1485 rfl rfl ?_
  refine ga_iload C.1 dL_law_1486 rfl ?_
  refine ga_iconst C.1 dL_law_1488 (v := 2) (by decide) ?_
  refine ga_iadd C.1 dL_law_1489 ?_
  refine la_sld C dL_law_1490 (hin 2 (by decide)) ?_
  obtain ⟨P, hsp, hE, v, S1, hv, hl, hr⟩ := hsim z S (xs (nI i + 1).toNatClampNeg) (xs (nI i + 2).toNatClampNeg) hI
  refine ga_aload_n C.1 dL_law_1491 rfl rfl ?_
  refine la_callW C dL_law_1492 (fun sz => wM_finer (C.2.2.2.2.2.2.2.2.2.2.2.2.1) hq hsp hE) rfl lL_184 lT_L_finer tL_init lC_L_finer lH_L_finer (by decide) (by decide) (Nat.le_of_ble_eq_true rfl) hk hs (fun k w2 hF => ?_)
  refine ga_istore C.1 dL_law_1495 (by decide) ?_
  refine ga_aload_n C.1 dL_law_1497 rfl rfl ?_
  refine ga_aload_n C.1 dL_law_1498 rfl rfl ?_
  refine ga_iload C.1 dL_law_1499 rfl ?_
  refine ga_iconst C.1 dL_law_1501 (v := 1) (by decide) ?_
  refine ga_iadd C.1 dL_law_1502 ?_
  refine la_sld C dL_law_1503 (hin 1 (by decide)) ?_
  refine ga_aload_n C.1 dL_law_1504 rfl rfl ?_
  refine ga_iload C.1 dL_law_1505 rfl ?_
  refine ga_iconst C.1 dL_law_1507 (v := 2) (by decide) ?_
  refine ga_iadd C.1 dL_law_1508 ?_
  refine la_sld C dL_law_1509 (hin 2 (by decide)) ?_
  refine la_callR C dL_law_1510 (mX7_finer hv) rfl lL_186 lI_X7_finer lS_X7_finer tX7_init lC_X7_finer lH_X7_finer (by decide) (by decide) (Nat.le_of_ble_eq_true rfl) (by omega) (by omega) ?_
  refine ga_istore C.1 dL_law_1513 (by decide) ?_
  refine ga_aload_n C.1 dL_law_1515 rfl rfl ?_
  refine la_callR C dL_law_1516 (mX7_thrown (r := (S1.1 54, S1)) rfl) rfl lL_122 lI_X7_thrown lS_X7_thrown tX7_init lC_X7_thrown lH_X7_thrown (by decide) (by decide) (Nat.le_of_ble_eq_true rfl) (by omega) (by omega) ?_
  refine ga_iload C.1 dL_law_1519 rfl ?_
  have hkk : S1.1 54 = k ∧ Inv2 w2.1 S1 ∧ (k = 0 → w2.2 0 = (if v = 0 then 0 else 1)) := by
    rcases hF with ⟨w, hP, rfl, ho⟩ | ⟨e, hP, rfl⟩
    · obtain ⟨q1, rfl, q3⟩ := hl w _ hP; exact ⟨q1, q3, fun _ => ho⟩
    · obtain ⟨q1, q2⟩ := hr e _ hP; refine ⟨q1, q2, fun h => ?_⟩; obtain rfl := hE e _ hP; exact absurd h (by decide)
  obtain ⟨hk1, hk2, hk3⟩ := hkk
  refine ga_icmp_eq C.1 dL_law_1521 (tgt := 1526) (by decide) (fun c1 => ?_) (fun c1 => absurd hk1 c1)
  refine ga_iload C.1 dL_law_1526 rfl ?_
  refine ga_if_ne C.1 dL_law_1528 (tgt := 1550) (by decide) (fun c2 => ?_) (fun c2 => ?_)
  · refine ga_goto C.1 dL_law_1550 (tgt := 2278) (by decide) ?_
    exact hend _ _ _ _ _ hk2
  · refine ga_aload_n C.1 dL_law_1531 rfl rfl ?_
    refine ga_iconst C.1 dL_law_1532 (v := 0) (by decide) ?_
    refine la_lald C dL_law_1533 ?_
    refine ga_iload C.1 dL_law_1534 rfl ?_
    refine ga_boolL C.1 (t1 := 1543) (t2 := 1544) dL_law_1536 (by decide) dL_law_1539 dL_law_1540 (by decide) dL_law_1543 rfl ?_
    refine ga_lcmp C.1 dL_law_1544 ?_
    refine ga_if_eq C.1 dL_law_1545 (tgt := 1550) (by decide) (fun c3 => ?_) (fun c3 => absurd (lg_cmp_same (hk3 c2)) c3)
    refine ga_goto C.1 dL_law_1550 (tgt := 2278) (by decide) ?_
    exact hend _ _ _ _ _ hk2
set_option maxRecDepth 100000 in
set_option maxHeartbeats 4000000 in
theorem lcase_alike {g : wG} {Gr : rG} {X : rX} {b L : Nat} {xs : Nat → Int32} {Q : State → Prop} {o i : Nat} {Inv Inv2 : cS → rS → Prop} {z : cS} {S : rS} {f : Nat → Int64} {kc ks : Nat} (C : lC g Gr X b L xs) (hin : ∀ c : Nat, c < 6 → vp_in (nI i + nI c) L) (hI : Inv z S) (hO : ∀ z S, Inv z S → ∃ n, z.1 o = some (6, n)) (hsim : sim_alike o Inv Inv2) (hk : kc + 100 ≤ 601024) (hs : ks + 14000 ≤ 7293034)
    (hend : ∀ z' S' f' k5 k6, Inv2 z' S' → gAW X (lR g Gr X.2.2.2.2.1.heap.size) (lA X.2.2.2.2.1.heap.size) Q 7 2278 [some (.ref b), some (.ref o), some (.ref Gr.2.2.2.1), some (.ref g.2.1), some (.int (nI i)), k5, k6] [] (z', S', f') (kc + 100) (ks + 14000)) : gAW X (lR g Gr X.2.2.2.2.1.heap.size) (lA X.2.2.2.2.1.heap.size) Q 7 1553 [some (.ref b), some (.ref o), some (.ref Gr.2.2.2.1), some (.ref g.2.1), some (.int (nI i)), none, none] [] (z, S, f) kc ks := by
  obtain ⟨n0, hq⟩ := hO z S hI
  refine ga_aload_n C.1 dL_law_1553 rfl rfl ?_
  refine ga_aload_n C.1 dL_law_1554 rfl rfl ?_
  refine ga_iload C.1 dL_law_1555 rfl ?_
  refine ga_iconst C.1 dL_law_1557 (v := 1) (by decide) ?_
  refine ga_iadd C.1 dL_law_1558 ?_
  refine la_sld C dL_law_1559 (hin 1 (by decide)) ?_
  refine ga_aload_n C.1 dL_law_1560 rfl rfl ?_
  refine ga_iload C.1 dL_law_1561 rfl ?_
  refine ga_iconst C.1 dL_law_1563 (v := 2) (by decide) ?_
  refine ga_iadd C.1 dL_law_1564 ?_
  refine la_sld C dL_law_1565 (hin 2 (by decide)) ?_
  obtain ⟨P, hsp, hE, v, S1, hv, hl, hr⟩ := hsim z S (xs (nI i + 1).toNatClampNeg) (xs (nI i + 2).toNatClampNeg) hI
  refine ga_aload_n C.1 dL_law_1566 rfl rfl ?_
  refine la_callW C dL_law_1567 (fun sz => wM_alike (C.2.2.2.2.2.2.2.2.2.2.2.2.1) hq hsp hE) rfl lL_187 lT_L_alike tL_init lC_L_alike lH_L_alike (by decide) (by decide) (Nat.le_of_ble_eq_true rfl) hk hs (fun k w2 hF => ?_)
  refine ga_istore C.1 dL_law_1570 (by decide) ?_
  refine ga_aload_n C.1 dL_law_1572 rfl rfl ?_
  refine ga_aload_n C.1 dL_law_1573 rfl rfl ?_
  refine ga_iload C.1 dL_law_1574 rfl ?_
  refine ga_iconst C.1 dL_law_1576 (v := 1) (by decide) ?_
  refine ga_iadd C.1 dL_law_1577 ?_
  refine la_sld C dL_law_1578 (hin 1 (by decide)) ?_
  refine ga_aload_n C.1 dL_law_1579 rfl rfl ?_
  refine ga_iload C.1 dL_law_1580 rfl ?_
  refine ga_iconst C.1 dL_law_1582 (v := 2) (by decide) ?_
  refine ga_iadd C.1 dL_law_1583 ?_
  refine la_sld C dL_law_1584 (hin 2 (by decide)) ?_
  refine la_callR C dL_law_1585 (mX7_alike hv) rfl lL_189 lI_X7_alike lS_X7_alike tX7_init lC_X7_alike lH_X7_alike (by decide) (by decide) (Nat.le_of_ble_eq_true rfl) (by omega) (by omega) ?_
  refine ga_istore C.1 dL_law_1588 (by decide) ?_
  refine ga_aload_n C.1 dL_law_1590 rfl rfl ?_
  refine la_callR C dL_law_1591 (mX7_thrown (r := (S1.1 54, S1)) rfl) rfl lL_122 lI_X7_thrown lS_X7_thrown tX7_init lC_X7_thrown lH_X7_thrown (by decide) (by decide) (Nat.le_of_ble_eq_true rfl) (by omega) (by omega) ?_
  refine ga_iload C.1 dL_law_1594 rfl ?_
  have hkk : S1.1 54 = k ∧ Inv2 w2.1 S1 ∧ (k = 0 → w2.2 0 = (if v = 0 then 0 else 1)) := by
    rcases hF with ⟨w, hP, rfl, ho⟩ | ⟨e, hP, rfl⟩
    · obtain ⟨q1, rfl, q3⟩ := hl w _ hP; exact ⟨q1, q3, fun _ => ho⟩
    · obtain ⟨q1, q2⟩ := hr e _ hP; refine ⟨q1, q2, fun h => ?_⟩; obtain rfl := hE e _ hP; exact absurd h (by decide)
  obtain ⟨hk1, hk2, hk3⟩ := hkk
  refine ga_icmp_eq C.1 dL_law_1596 (tgt := 1601) (by decide) (fun c1 => ?_) (fun c1 => absurd hk1 c1)
  refine ga_iload C.1 dL_law_1601 rfl ?_
  refine ga_if_ne C.1 dL_law_1603 (tgt := 1625) (by decide) (fun c2 => ?_) (fun c2 => ?_)
  · refine ga_goto C.1 dL_law_1625 (tgt := 2278) (by decide) ?_
    exact hend _ _ _ _ _ hk2
  · refine ga_aload_n C.1 dL_law_1606 rfl rfl ?_
    refine ga_iconst C.1 dL_law_1607 (v := 0) (by decide) ?_
    refine la_lald C dL_law_1608 ?_
    refine ga_iload C.1 dL_law_1609 rfl ?_
    refine ga_boolL C.1 (t1 := 1618) (t2 := 1619) dL_law_1611 (by decide) dL_law_1614 dL_law_1615 (by decide) dL_law_1618 rfl ?_
    refine ga_lcmp C.1 dL_law_1619 ?_
    refine ga_if_eq C.1 dL_law_1620 (tgt := 1625) (by decide) (fun c3 => ?_) (fun c3 => absurd (lg_cmp_same (hk3 c2)) c3)
    refine ga_goto C.1 dL_law_1625 (tgt := 2278) (by decide) ?_
    exact hend _ _ _ _ _ hk2
set_option maxRecDepth 100000 in
set_option maxHeartbeats 4000000 in
theorem lcase_bodyType {g : wG} {Gr : rG} {X : rX} {b L : Nat} {xs : Nat → Int32} {Q : State → Prop} {o i : Nat} {Inv Inv2 : cS → rS → Prop} {z : cS} {S : rS} {f : Nat → Int64} {kc ks : Nat} (C : lC g Gr X b L xs) (hin : ∀ c : Nat, c < 6 → vp_in (nI i + nI c) L) (hI : Inv z S) (hO : ∀ z S, Inv z S → ∃ n, z.1 o = some (6, n)) (hsim : sim_bodyType o Inv Inv2) (hk : kc + 100 ≤ 601024) (hs : ks + 14000 ≤ 7293034)
    (hend : ∀ z' S' f' k5 k6, Inv2 z' S' → gAW X (lR g Gr X.2.2.2.2.1.heap.size) (lA X.2.2.2.2.1.heap.size) Q 7 2278 [some (.ref b), some (.ref o), some (.ref Gr.2.2.2.1), some (.ref g.2.1), some (.int (nI i)), k5, k6] [] (z', S', f') (kc + 100) (ks + 14000)) : gAW X (lR g Gr X.2.2.2.2.1.heap.size) (lA X.2.2.2.2.1.heap.size) Q 7 1628 [some (.ref b), some (.ref o), some (.ref Gr.2.2.2.1), some (.ref g.2.1), some (.int (nI i)), none, none] [] (z, S, f) kc ks := by
  obtain ⟨n0, hq⟩ := hO z S hI
  refine ga_aload_n C.1 dL_law_1628 rfl rfl ?_
  refine ga_aload_n C.1 dL_law_1629 rfl rfl ?_
  refine ga_iload C.1 dL_law_1630 rfl ?_
  refine ga_iconst C.1 dL_law_1632 (v := 1) (by decide) ?_
  refine ga_iadd C.1 dL_law_1633 ?_
  refine la_sld C dL_law_1634 (hin 1 (by decide)) ?_
  refine ga_aload_n C.1 dL_law_1635 rfl rfl ?_
  refine ga_iload C.1 dL_law_1636 rfl ?_
  refine ga_iconst C.1 dL_law_1638 (v := 2) (by decide) ?_
  refine ga_iadd C.1 dL_law_1639 ?_
  refine la_sld C dL_law_1640 (hin 2 (by decide)) ?_
  obtain ⟨P, hsp, hE, v, S1, hv, hl, hr⟩ := hsim z S (xs (nI i + 1).toNatClampNeg) (xs (nI i + 2).toNatClampNeg) hI
  refine ga_aload_n C.1 dL_law_1641 rfl rfl ?_
  refine la_callW C dL_law_1642 (fun sz => wM_bodyType (C.2.2.2.2.2.2.2.2.2.2.2.2.1) hq hsp hE) rfl lL_190 lT_L_bodyType tL_init lC_L_bodyType lH_L_bodyType (by decide) (by decide) (Nat.le_of_ble_eq_true rfl) hk hs (fun k w2 hF => ?_)
  refine ga_istore C.1 dL_law_1645 (by decide) ?_
  refine ga_aload_n C.1 dL_law_1647 rfl rfl ?_
  refine ga_aload_n C.1 dL_law_1648 rfl rfl ?_
  refine ga_iload C.1 dL_law_1649 rfl ?_
  refine ga_iconst C.1 dL_law_1651 (v := 1) (by decide) ?_
  refine ga_iadd C.1 dL_law_1652 ?_
  refine la_sld C dL_law_1653 (hin 1 (by decide)) ?_
  refine ga_aload_n C.1 dL_law_1654 rfl rfl ?_
  refine ga_iload C.1 dL_law_1655 rfl ?_
  refine ga_iconst C.1 dL_law_1657 (v := 2) (by decide) ?_
  refine ga_iadd C.1 dL_law_1658 ?_
  refine la_sld C dL_law_1659 (hin 2 (by decide)) ?_
  refine la_callR C dL_law_1660 (mX7_bodyType hv) rfl lL_192 lI_X7_bodyType lS_X7_bodyType tX7_init lC_X7_bodyType lH_X7_bodyType (by decide) (by decide) (Nat.le_of_ble_eq_true rfl) (by omega) (by omega) ?_
  refine ga_istore C.1 dL_law_1663 (by decide) ?_
  refine ga_aload_n C.1 dL_law_1665 rfl rfl ?_
  refine la_callR C dL_law_1666 (mX7_thrown (r := (S1.1 54, S1)) rfl) rfl lL_122 lI_X7_thrown lS_X7_thrown tX7_init lC_X7_thrown lH_X7_thrown (by decide) (by decide) (Nat.le_of_ble_eq_true rfl) (by omega) (by omega) ?_
  refine ga_iload C.1 dL_law_1669 rfl ?_
  have hkk : S1.1 54 = k ∧ Inv2 w2.1 S1 ∧ (k = 0 → w2.2 0 = v.toInt64) := by
    rcases hF with ⟨w, hP, rfl, ho⟩ | ⟨e, hP, rfl⟩
    · obtain ⟨q1, rfl, q3⟩ := hl w _ hP; exact ⟨q1, q3, fun _ => ho⟩
    · obtain ⟨q1, q2⟩ := hr e _ hP; refine ⟨q1, q2, fun h => ?_⟩; rcases hE e _ hP with rfl | rfl <;> exact absurd h (by decide)
  obtain ⟨hk1, hk2, hk3⟩ := hkk
  refine ga_icmp_eq C.1 dL_law_1671 (tgt := 1676) (by decide) (fun c1 => ?_) (fun c1 => absurd hk1 c1)
  refine ga_iload C.1 dL_law_1676 rfl ?_
  refine ga_if_ne C.1 dL_law_1678 (tgt := 1693) (by decide) (fun c2 => ?_) (fun c2 => ?_)
  · refine ga_goto C.1 dL_law_1693 (tgt := 2278) (by decide) ?_
    exact hend _ _ _ _ _ hk2
  · refine ga_aload_n C.1 dL_law_1681 rfl rfl ?_
    refine ga_iconst C.1 dL_law_1682 (v := 0) (by decide) ?_
    refine la_lald C dL_law_1683 ?_
    refine ga_iload C.1 dL_law_1684 rfl ?_
    refine ga_i2l C.1 dL_law_1686 ?_
    refine ga_lcmp C.1 dL_law_1687 ?_
    refine ga_if_eq C.1 dL_law_1688 (tgt := 1693) (by decide) (fun c3 => ?_) (fun c3 => absurd (lg_cmp_same (hk3 c2)) c3)
    refine ga_goto C.1 dL_law_1693 (tgt := 2278) (by decide) ?_
    exact hend _ _ _ _ _ hk2
set_option maxRecDepth 100000 in
set_option maxHeartbeats 4000000 in
theorem lcase_bodyValue {g : wG} {Gr : rG} {X : rX} {b L : Nat} {xs : Nat → Int32} {Q : State → Prop} {o i : Nat} {Inv Inv2 : cS → rS → Prop} {z : cS} {S : rS} {f : Nat → Int64} {kc ks : Nat} (C : lC g Gr X b L xs) (hin : ∀ c : Nat, c < 6 → vp_in (nI i + nI c) L) (hI : Inv z S) (hO : ∀ z S, Inv z S → ∃ n, z.1 o = some (6, n)) (hsim : sim_bodyValue o Inv Inv2) (hk : kc + 100 ≤ 601024) (hs : ks + 14000 ≤ 7293034)
    (hend : ∀ z' S' f' k5 k6, Inv2 z' S' → gAW X (lR g Gr X.2.2.2.2.1.heap.size) (lA X.2.2.2.2.1.heap.size) Q 7 2278 [some (.ref b), some (.ref o), some (.ref Gr.2.2.2.1), some (.ref g.2.1), some (.int (nI i)), k5, k6] [] (z', S', f') (kc + 100) (ks + 14000)) : gAW X (lR g Gr X.2.2.2.2.1.heap.size) (lA X.2.2.2.2.1.heap.size) Q 7 1696 [some (.ref b), some (.ref o), some (.ref Gr.2.2.2.1), some (.ref g.2.1), some (.int (nI i)), none, none] [] (z, S, f) kc ks := by
  obtain ⟨n0, hq⟩ := hO z S hI
  refine ga_aload_n C.1 dL_law_1696 rfl rfl ?_
  refine ga_aload_n C.1 dL_law_1697 rfl rfl ?_
  refine ga_iload C.1 dL_law_1698 rfl ?_
  refine ga_iconst C.1 dL_law_1700 (v := 1) (by decide) ?_
  refine ga_iadd C.1 dL_law_1701 ?_
  refine la_sld C dL_law_1702 (hin 1 (by decide)) ?_
  refine ga_aload_n C.1 dL_law_1703 rfl rfl ?_
  refine ga_iload C.1 dL_law_1704 rfl ?_
  refine ga_iconst C.1 dL_law_1706 (v := 2) (by decide) ?_
  refine ga_iadd C.1 dL_law_1707 ?_
  refine la_sld C dL_law_1708 (hin 2 (by decide)) ?_
  refine ga_aload_n C.1 dL_law_1709 rfl rfl ?_
  refine ga_iload C.1 dL_law_1710 rfl ?_
  refine ga_iconst C.1 dL_law_1712 (v := 3) (by decide) ?_
  refine ga_iadd C.1 dL_law_1713 ?_
  refine la_sld C dL_law_1714 (hin 3 (by decide)) ?_
  refine ga_aload_n C.1 dL_law_1715 rfl rfl ?_
  refine ga_iload C.1 dL_law_1716 rfl ?_
  refine ga_iconst C.1 dL_law_1718 (v := 4) (by decide) ?_
  refine ga_iadd C.1 dL_law_1719 ?_
  refine la_sld C dL_law_1720 (hin 4 (by decide)) ?_
  refine ga_aload_n C.1 dL_law_1721 rfl rfl ?_
  refine ga_iload C.1 dL_law_1722 rfl ?_
  refine ga_iconst C.1 dL_law_1724 (v := 5) (by decide) ?_
  refine ga_iadd C.1 dL_law_1725 ?_
  refine la_sld C dL_law_1726 (hin 5 (by decide)) ?_
  obtain ⟨P, hsp, hE, v, S1, hv, hl, hr⟩ := hsim z S (xs (nI i + 1).toNatClampNeg) (xs (nI i + 2).toNatClampNeg) (xs (nI i + 3).toNatClampNeg) (xs (nI i + 4).toNatClampNeg) (xs (nI i + 5).toNatClampNeg) hI
  refine ga_aload_n C.1 dL_law_1727 rfl rfl ?_
  refine la_callW C dL_law_1728 (fun sz => wM_bodyValue (C.2.2.2.2.2.2.2.2.2.2.2.2.1) hq hsp hE) rfl lL_193 lT_L_bodyValue tL_init lC_L_bodyValue lH_L_bodyValue (by decide) (by decide) (Nat.le_of_ble_eq_true rfl) hk hs (fun k w2 hF => ?_)
  refine ga_istore C.1 dL_law_1731 (by decide) ?_
  refine ga_aload_n C.1 dL_law_1733 rfl rfl ?_
  refine ga_aload_n C.1 dL_law_1734 rfl rfl ?_
  refine ga_iload C.1 dL_law_1735 rfl ?_
  refine ga_iconst C.1 dL_law_1737 (v := 1) (by decide) ?_
  refine ga_iadd C.1 dL_law_1738 ?_
  refine la_sld C dL_law_1739 (hin 1 (by decide)) ?_
  refine ga_aload_n C.1 dL_law_1740 rfl rfl ?_
  refine ga_iload C.1 dL_law_1741 rfl ?_
  refine ga_iconst C.1 dL_law_1743 (v := 2) (by decide) ?_
  refine ga_iadd C.1 dL_law_1744 ?_
  refine la_sld C dL_law_1745 (hin 2 (by decide)) ?_
  refine ga_aload_n C.1 dL_law_1746 rfl rfl ?_
  refine ga_iload C.1 dL_law_1747 rfl ?_
  refine ga_iconst C.1 dL_law_1749 (v := 3) (by decide) ?_
  refine ga_iadd C.1 dL_law_1750 ?_
  refine la_sld C dL_law_1751 (hin 3 (by decide)) ?_
  refine ga_aload_n C.1 dL_law_1752 rfl rfl ?_
  refine ga_iload C.1 dL_law_1753 rfl ?_
  refine ga_iconst C.1 dL_law_1755 (v := 4) (by decide) ?_
  refine ga_iadd C.1 dL_law_1756 ?_
  refine la_sld C dL_law_1757 (hin 4 (by decide)) ?_
  refine ga_aload_n C.1 dL_law_1758 rfl rfl ?_
  refine ga_iload C.1 dL_law_1759 rfl ?_
  refine ga_iconst C.1 dL_law_1761 (v := 5) (by decide) ?_
  refine ga_iadd C.1 dL_law_1762 ?_
  refine la_sld C dL_law_1763 (hin 5 (by decide)) ?_
  refine la_callR C dL_law_1764 (mX7_bodyValue hv) rfl lL_196 lI_X7_bodyValue lS_X7_bodyValue tX7_init lC_X7_bodyValue lH_X7_bodyValue (by decide) (by decide) (Nat.le_of_ble_eq_true rfl) (by omega) (by omega) ?_
  refine ga_istore C.1 dL_law_1767 (by decide) ?_
  refine ga_aload_n C.1 dL_law_1769 rfl rfl ?_
  refine la_callR C dL_law_1770 (mX7_thrown (r := (S1.1 54, S1)) rfl) rfl lL_122 lI_X7_thrown lS_X7_thrown tX7_init lC_X7_thrown lH_X7_thrown (by decide) (by decide) (Nat.le_of_ble_eq_true rfl) (by omega) (by omega) ?_
  refine ga_iload C.1 dL_law_1773 rfl ?_
  have hkk : S1.1 54 = k ∧ Inv2 w2.1 S1 ∧ (k = 0 → w2.2 0 = v.toInt64) := by
    rcases hF with ⟨w, hP, rfl, ho⟩ | ⟨e, hP, rfl⟩
    · obtain ⟨q1, rfl, q3⟩ := hl w _ hP; exact ⟨q1, q3, fun _ => ho⟩
    · obtain ⟨q1, q2⟩ := hr e _ hP; refine ⟨q1, q2, fun h => ?_⟩; rcases hE e _ hP with rfl | rfl | rfl <;> exact absurd h (by decide)
  obtain ⟨hk1, hk2, hk3⟩ := hkk
  refine ga_icmp_eq C.1 dL_law_1775 (tgt := 1780) (by decide) (fun c1 => ?_) (fun c1 => absurd hk1 c1)
  refine ga_iload C.1 dL_law_1780 rfl ?_
  refine ga_if_ne C.1 dL_law_1782 (tgt := 1797) (by decide) (fun c2 => ?_) (fun c2 => ?_)
  · refine ga_goto C.1 dL_law_1797 (tgt := 2278) (by decide) ?_
    exact hend _ _ _ _ _ hk2
  · refine ga_aload_n C.1 dL_law_1785 rfl rfl ?_
    refine ga_iconst C.1 dL_law_1786 (v := 0) (by decide) ?_
    refine la_lald C dL_law_1787 ?_
    refine ga_iload C.1 dL_law_1788 rfl ?_
    refine ga_i2l C.1 dL_law_1790 ?_
    refine ga_lcmp C.1 dL_law_1791 ?_
    refine ga_if_eq C.1 dL_law_1792 (tgt := 1797) (by decide) (fun c3 => ?_) (fun c3 => absurd (lg_cmp_same (hk3 c2)) c3)
    refine ga_goto C.1 dL_law_1797 (tgt := 2278) (by decide) ?_
    exact hend _ _ _ _ _ hk2
set_option maxRecDepth 100000 in
set_option maxHeartbeats 4000000 in
theorem lcase_functor {g : wG} {Gr : rG} {X : rX} {b L : Nat} {xs : Nat → Int32} {Q : State → Prop} {o i : Nat} {Inv Inv2 : cS → rS → Prop} {z : cS} {S : rS} {f : Nat → Int64} {kc ks : Nat} (C : lC g Gr X b L xs) (hin : ∀ c : Nat, c < 6 → vp_in (nI i + nI c) L) (hI : Inv z S) (hO : ∀ z S, Inv z S → ∃ n, z.1 o = some (6, n)) (hsim : sim_functor o Inv Inv2) (hk : kc + 100 ≤ 601024) (hs : ks + 14000 ≤ 7293034)
    (hend : ∀ z' S' f' k5 k6, Inv2 z' S' → gAW X (lR g Gr X.2.2.2.2.1.heap.size) (lA X.2.2.2.2.1.heap.size) Q 7 2278 [some (.ref b), some (.ref o), some (.ref Gr.2.2.2.1), some (.ref g.2.1), some (.int (nI i)), k5, k6] [] (z', S', f') (kc + 100) (ks + 14000)) : gAW X (lR g Gr X.2.2.2.2.1.heap.size) (lA X.2.2.2.2.1.heap.size) Q 7 1800 [some (.ref b), some (.ref o), some (.ref Gr.2.2.2.1), some (.ref g.2.1), some (.int (nI i)), none, none] [] (z, S, f) kc ks := by
  obtain ⟨n0, hq⟩ := hO z S hI
  refine ga_aload_n C.1 dL_law_1800 rfl rfl ?_
  refine ga_aload_n C.1 dL_law_1801 rfl rfl ?_
  refine ga_iload C.1 dL_law_1802 rfl ?_
  refine ga_iconst C.1 dL_law_1804 (v := 1) (by decide) ?_
  refine ga_iadd C.1 dL_law_1805 ?_
  refine la_sld C dL_law_1806 (hin 1 (by decide)) ?_
  refine ga_aload_n C.1 dL_law_1807 rfl rfl ?_
  refine ga_iload C.1 dL_law_1808 rfl ?_
  refine ga_iconst C.1 dL_law_1810 (v := 2) (by decide) ?_
  refine ga_iadd C.1 dL_law_1811 ?_
  refine la_sld C dL_law_1812 (hin 2 (by decide)) ?_
  refine ga_aload_n C.1 dL_law_1813 rfl rfl ?_
  refine ga_iload C.1 dL_law_1814 rfl ?_
  refine ga_iconst C.1 dL_law_1816 (v := 3) (by decide) ?_
  refine ga_iadd C.1 dL_law_1817 ?_
  refine la_sld C dL_law_1818 (hin 3 (by decide)) ?_
  refine ga_bool C.1 (t1 := 1826) (t2 := 1827) dL_law_1819 (by decide) dL_law_1822 dL_law_1823 (by decide) dL_law_1826 rfl ?_
  obtain ⟨P, hsp, hE, v, S1, hv, hl, hr⟩ := hsim z S (xs (nI i + 1).toNatClampNeg) (xs (nI i + 2).toNatClampNeg) (if (xs (nI i + 3).toNatClampNeg) = 0 then 0 else 1) (by split <;> simp) hI
  refine ga_aload_n C.1 dL_law_1827 rfl rfl ?_
  refine la_callW C dL_law_1828 (fun sz => wM_functor (C.2.2.2.2.2.2.2.2.2.2.2.2.1) hq hsp hE) rfl lL_197 lT_L_functor tL_init lC_L_functor lH_L_functor (by decide) (by decide) (Nat.le_of_ble_eq_true rfl) hk hs (fun k w2 hF => ?_)
  refine ga_istore C.1 dL_law_1831 (by decide) ?_
  refine ga_aload_n C.1 dL_law_1833 rfl rfl ?_
  refine ga_aload_n C.1 dL_law_1834 rfl rfl ?_
  refine ga_iload C.1 dL_law_1835 rfl ?_
  refine ga_iconst C.1 dL_law_1837 (v := 1) (by decide) ?_
  refine ga_iadd C.1 dL_law_1838 ?_
  refine la_sld C dL_law_1839 (hin 1 (by decide)) ?_
  refine ga_aload_n C.1 dL_law_1840 rfl rfl ?_
  refine ga_iload C.1 dL_law_1841 rfl ?_
  refine ga_iconst C.1 dL_law_1843 (v := 2) (by decide) ?_
  refine ga_iadd C.1 dL_law_1844 ?_
  refine la_sld C dL_law_1845 (hin 2 (by decide)) ?_
  refine ga_aload_n C.1 dL_law_1846 rfl rfl ?_
  refine ga_iload C.1 dL_law_1847 rfl ?_
  refine ga_iconst C.1 dL_law_1849 (v := 3) (by decide) ?_
  refine ga_iadd C.1 dL_law_1850 ?_
  refine la_sld C dL_law_1851 (hin 3 (by decide)) ?_
  refine ga_bool C.1 (t1 := 1859) (t2 := 1860) dL_law_1852 (by decide) dL_law_1855 dL_law_1856 (by decide) dL_law_1859 rfl ?_
  refine la_callR C dL_law_1860 (mX7_functor hv) rfl lL_200 lI_X7_functor lS_X7_functor tX7_init lC_X7_functor lH_X7_functor (by decide) (by decide) (Nat.le_of_ble_eq_true rfl) (by omega) (by omega) ?_
  refine ga_istore C.1 dL_law_1863 (by decide) ?_
  refine ga_aload_n C.1 dL_law_1865 rfl rfl ?_
  refine la_callR C dL_law_1866 (mX7_thrown (r := (S1.1 54, S1)) rfl) rfl lL_122 lI_X7_thrown lS_X7_thrown tX7_init lC_X7_thrown lH_X7_thrown (by decide) (by decide) (Nat.le_of_ble_eq_true rfl) (by omega) (by omega) ?_
  refine ga_iload C.1 dL_law_1869 rfl ?_
  have hkk : S1.1 54 = k ∧ Inv2 w2.1 S1 ∧ (k = 0 → w2.2 0 = v.toInt64) := by
    rcases hF with ⟨w, hP, rfl, ho⟩ | ⟨e, hP, rfl⟩
    · obtain ⟨q1, rfl, q3⟩ := hl w _ hP; exact ⟨q1, q3, fun _ => ho⟩
    · obtain ⟨q1, q2⟩ := hr e _ hP; refine ⟨q1, q2, fun h => ?_⟩; rcases hE e _ hP with rfl | rfl <;> exact absurd h (by decide)
  obtain ⟨hk1, hk2, hk3⟩ := hkk
  refine ga_icmp_eq C.1 dL_law_1871 (tgt := 1876) (by decide) (fun c1 => ?_) (fun c1 => absurd hk1 c1)
  refine ga_iload C.1 dL_law_1876 rfl ?_
  refine ga_if_ne C.1 dL_law_1878 (tgt := 1893) (by decide) (fun c2 => ?_) (fun c2 => ?_)
  · refine ga_goto C.1 dL_law_1893 (tgt := 2278) (by decide) ?_
    exact hend _ _ _ _ _ hk2
  · refine ga_aload_n C.1 dL_law_1881 rfl rfl ?_
    refine ga_iconst C.1 dL_law_1882 (v := 0) (by decide) ?_
    refine la_lald C dL_law_1883 ?_
    refine ga_iload C.1 dL_law_1884 rfl ?_
    refine ga_i2l C.1 dL_law_1886 ?_
    refine ga_lcmp C.1 dL_law_1887 ?_
    refine ga_if_eq C.1 dL_law_1888 (tgt := 1893) (by decide) (fun c3 => ?_) (fun c3 => absurd (lg_cmp_same (hk3 c2)) c3)
    refine ga_goto C.1 dL_law_1893 (tgt := 2278) (by decide) ?_
    exact hend _ _ _ _ _ hk2
set_option maxRecDepth 100000 in
set_option maxHeartbeats 4000000 in
theorem lcase_apply {g : wG} {Gr : rG} {X : rX} {b L : Nat} {xs : Nat → Int32} {Q : State → Prop} {o i : Nat} {Inv Inv2 : cS → rS → Prop} {z : cS} {S : rS} {f : Nat → Int64} {kc ks : Nat} (C : lC g Gr X b L xs) (hin : ∀ c : Nat, c < 6 → vp_in (nI i + nI c) L) (hI : Inv z S) (hO : ∀ z S, Inv z S → ∃ n, z.1 o = some (6, n)) (hsim : sim_apply o Inv Inv2) (hk : kc + 100 ≤ 601024) (hs : ks + 14000 ≤ 7293034)
    (hend : ∀ z' S' f' k5 k6, Inv2 z' S' → gAW X (lR g Gr X.2.2.2.2.1.heap.size) (lA X.2.2.2.2.1.heap.size) Q 7 2278 [some (.ref b), some (.ref o), some (.ref Gr.2.2.2.1), some (.ref g.2.1), some (.int (nI i)), k5, k6] [] (z', S', f') (kc + 100) (ks + 14000)) : gAW X (lR g Gr X.2.2.2.2.1.heap.size) (lA X.2.2.2.2.1.heap.size) Q 7 1896 [some (.ref b), some (.ref o), some (.ref Gr.2.2.2.1), some (.ref g.2.1), some (.int (nI i)), none, none] [] (z, S, f) kc ks := by
  obtain ⟨n0, hq⟩ := hO z S hI
  refine ga_aload_n C.1 dL_law_1896 rfl rfl ?_
  refine ga_aload_n C.1 dL_law_1897 rfl rfl ?_
  refine ga_iload C.1 dL_law_1898 rfl ?_
  refine ga_iconst C.1 dL_law_1900 (v := 1) (by decide) ?_
  refine ga_iadd C.1 dL_law_1901 ?_
  refine la_sld C dL_law_1902 (hin 1 (by decide)) ?_
  refine ga_aload_n C.1 dL_law_1903 rfl rfl ?_
  refine ga_iload C.1 dL_law_1904 rfl ?_
  refine ga_iconst C.1 dL_law_1906 (v := 2) (by decide) ?_
  refine ga_iadd C.1 dL_law_1907 ?_
  refine la_sld C dL_law_1908 (hin 2 (by decide)) ?_
  obtain ⟨P, hsp, hE, v, S1, hv, hl, hr⟩ := hsim z S (xs (nI i + 1).toNatClampNeg) (xs (nI i + 2).toNatClampNeg) hI
  refine ga_aload_n C.1 dL_law_1909 rfl rfl ?_
  refine la_callW C dL_law_1910 (fun sz => wM_apply (C.2.2.2.2.2.2.2.2.2.2.2.2.1) hq hsp hE) rfl lL_201 lT_L_apply tL_init lC_L_apply lH_L_apply (by decide) (by decide) (Nat.le_of_ble_eq_true rfl) hk hs (fun k w2 hF => ?_)
  refine ga_istore C.1 dL_law_1913 (by decide) ?_
  refine ga_aload_n C.1 dL_law_1915 rfl rfl ?_
  refine ga_aload_n C.1 dL_law_1916 rfl rfl ?_
  refine ga_iload C.1 dL_law_1917 rfl ?_
  refine ga_iconst C.1 dL_law_1919 (v := 1) (by decide) ?_
  refine ga_iadd C.1 dL_law_1920 ?_
  refine la_sld C dL_law_1921 (hin 1 (by decide)) ?_
  refine ga_aload_n C.1 dL_law_1922 rfl rfl ?_
  refine ga_iload C.1 dL_law_1923 rfl ?_
  refine ga_iconst C.1 dL_law_1925 (v := 2) (by decide) ?_
  refine ga_iadd C.1 dL_law_1926 ?_
  refine la_sld C dL_law_1927 (hin 2 (by decide)) ?_
  refine la_callR C dL_law_1928 (mX7_apply hv) rfl lL_203 lI_X7_apply lS_X7_apply tX7_init lC_X7_apply lH_X7_apply (by decide) (by decide) (Nat.le_of_ble_eq_true rfl) (by omega) (by omega) ?_
  refine ga_istore C.1 dL_law_1931 (by decide) ?_
  refine ga_aload_n C.1 dL_law_1933 rfl rfl ?_
  refine la_callR C dL_law_1934 (mX7_thrown (r := (S1.1 54, S1)) rfl) rfl lL_122 lI_X7_thrown lS_X7_thrown tX7_init lC_X7_thrown lH_X7_thrown (by decide) (by decide) (Nat.le_of_ble_eq_true rfl) (by omega) (by omega) ?_
  refine ga_iload C.1 dL_law_1937 rfl ?_
  have hkk : S1.1 54 = k ∧ Inv2 w2.1 S1 ∧ (k = 0 → w2.2 0 = v.toInt64) := by
    rcases hF with ⟨w, hP, rfl, ho⟩ | ⟨e, hP, rfl⟩
    · obtain ⟨q1, rfl, q3⟩ := hl w _ hP; exact ⟨q1, q3, fun _ => ho⟩
    · obtain ⟨q1, q2⟩ := hr e _ hP; refine ⟨q1, q2, fun h => ?_⟩; rcases hE e _ hP with rfl | rfl <;> exact absurd h (by decide)
  obtain ⟨hk1, hk2, hk3⟩ := hkk
  refine ga_icmp_eq C.1 dL_law_1939 (tgt := 1944) (by decide) (fun c1 => ?_) (fun c1 => absurd hk1 c1)
  refine ga_iload C.1 dL_law_1944 rfl ?_
  refine ga_if_ne C.1 dL_law_1946 (tgt := 1961) (by decide) (fun c2 => ?_) (fun c2 => ?_)
  · refine ga_goto C.1 dL_law_1961 (tgt := 2278) (by decide) ?_
    exact hend _ _ _ _ _ hk2
  · refine ga_aload_n C.1 dL_law_1949 rfl rfl ?_
    refine ga_iconst C.1 dL_law_1950 (v := 0) (by decide) ?_
    refine la_lald C dL_law_1951 ?_
    refine ga_iload C.1 dL_law_1952 rfl ?_
    refine ga_i2l C.1 dL_law_1954 ?_
    refine ga_lcmp C.1 dL_law_1955 ?_
    refine ga_if_eq C.1 dL_law_1956 (tgt := 1961) (by decide) (fun c3 => ?_) (fun c3 => absurd (lg_cmp_same (hk3 c2)) c3)
    refine ga_goto C.1 dL_law_1961 (tgt := 2278) (by decide) ?_
    exact hend _ _ _ _ _ hk2
set_option maxRecDepth 100000 in
set_option maxHeartbeats 4000000 in
theorem lcase_pack {g : wG} {Gr : rG} {X : rX} {b L : Nat} {xs : Nat → Int32} {Q : State → Prop} {o i : Nat} {Inv Inv2 : cS → rS → Prop} {z : cS} {S : rS} {f : Nat → Int64} {kc ks : Nat} (C : lC g Gr X b L xs) (hin : ∀ c : Nat, c < 6 → vp_in (nI i + nI c) L) (hI : Inv z S) (hO : ∀ z S, Inv z S → ∃ n, z.1 o = some (6, n)) (hsim : sim_pack o Inv Inv2) (hk : kc + 100 ≤ 601024) (hs : ks + 14000 ≤ 7293034)
    (hend : ∀ z' S' f' k5 k6, Inv2 z' S' → gAW X (lR g Gr X.2.2.2.2.1.heap.size) (lA X.2.2.2.2.1.heap.size) Q 7 2278 [some (.ref b), some (.ref o), some (.ref Gr.2.2.2.1), some (.ref g.2.1), some (.int (nI i)), k5, k6] [] (z', S', f') (kc + 100) (ks + 14000)) : gAW X (lR g Gr X.2.2.2.2.1.heap.size) (lA X.2.2.2.2.1.heap.size) Q 7 1964 [some (.ref b), some (.ref o), some (.ref Gr.2.2.2.1), some (.ref g.2.1), some (.int (nI i)), none, none] [] (z, S, f) kc ks := by
  obtain ⟨n0, hq⟩ := hO z S hI
  refine ga_aload_n C.1 dL_law_1964 rfl rfl ?_
  refine ga_aload_n C.1 dL_law_1965 rfl rfl ?_
  refine ga_iload C.1 dL_law_1966 rfl ?_
  refine ga_iconst C.1 dL_law_1968 (v := 1) (by decide) ?_
  refine ga_iadd C.1 dL_law_1969 ?_
  refine la_sld C dL_law_1970 (hin 1 (by decide)) ?_
  refine ga_aload_n C.1 dL_law_1971 rfl rfl ?_
  refine ga_iload C.1 dL_law_1972 rfl ?_
  refine ga_iconst C.1 dL_law_1974 (v := 2) (by decide) ?_
  refine ga_iadd C.1 dL_law_1975 ?_
  refine la_sld C dL_law_1976 (hin 2 (by decide)) ?_
  obtain ⟨P, hsp, hE, v, S1, hv, hl, hr⟩ := hsim z S (xs (nI i + 1).toNatClampNeg) (xs (nI i + 2).toNatClampNeg) hI
  refine ga_aload_n C.1 dL_law_1977 rfl rfl ?_
  refine la_callW C dL_law_1978 (fun sz => wM_pack (C.2.2.2.2.2.2.2.2.2.2.2.2.1) hq hsp hE) rfl lL_204 lT_L_pack tL_init lC_L_pack lH_L_pack (by decide) (by decide) (Nat.le_of_ble_eq_true rfl) hk hs (fun k w2 hF => ?_)
  refine ga_istore C.1 dL_law_1981 (by decide) ?_
  refine ga_aload_n C.1 dL_law_1983 rfl rfl ?_
  refine ga_aload_n C.1 dL_law_1984 rfl rfl ?_
  refine ga_iload C.1 dL_law_1985 rfl ?_
  refine ga_iconst C.1 dL_law_1987 (v := 1) (by decide) ?_
  refine ga_iadd C.1 dL_law_1988 ?_
  refine la_sld C dL_law_1989 (hin 1 (by decide)) ?_
  refine ga_aload_n C.1 dL_law_1990 rfl rfl ?_
  refine ga_iload C.1 dL_law_1991 rfl ?_
  refine ga_iconst C.1 dL_law_1993 (v := 2) (by decide) ?_
  refine ga_iadd C.1 dL_law_1994 ?_
  refine la_sld C dL_law_1995 (hin 2 (by decide)) ?_
  refine la_callR C dL_law_1996 (mX7_pack hv) rfl lL_206 lI_X7_pack lS_X7_pack tX7_init lC_X7_pack lH_X7_pack (by decide) (by decide) (Nat.le_of_ble_eq_true rfl) (by omega) (by omega) ?_
  refine ga_istore C.1 dL_law_1999 (by decide) ?_
  refine ga_aload_n C.1 dL_law_2001 rfl rfl ?_
  refine la_callR C dL_law_2002 (mX7_thrown (r := (S1.1 54, S1)) rfl) rfl lL_122 lI_X7_thrown lS_X7_thrown tX7_init lC_X7_thrown lH_X7_thrown (by decide) (by decide) (Nat.le_of_ble_eq_true rfl) (by omega) (by omega) ?_
  refine ga_iload C.1 dL_law_2005 rfl ?_
  have hkk : S1.1 54 = k ∧ Inv2 w2.1 S1 ∧ (k = 0 → w2.2 0 = v.toInt64) := by
    rcases hF with ⟨w, hP, rfl, ho⟩ | ⟨e, hP, rfl⟩
    · obtain ⟨q1, rfl, q3⟩ := hl w _ hP; exact ⟨q1, q3, fun _ => ho⟩
    · obtain ⟨q1, q2⟩ := hr e _ hP; refine ⟨q1, q2, fun h => ?_⟩; rcases hE e _ hP with rfl | rfl <;> exact absurd h (by decide)
  obtain ⟨hk1, hk2, hk3⟩ := hkk
  refine ga_icmp_eq C.1 dL_law_2007 (tgt := 2012) (by decide) (fun c1 => ?_) (fun c1 => absurd hk1 c1)
  refine ga_iload C.1 dL_law_2012 rfl ?_
  refine ga_if_ne C.1 dL_law_2014 (tgt := 2029) (by decide) (fun c2 => ?_) (fun c2 => ?_)
  · refine ga_goto C.1 dL_law_2029 (tgt := 2278) (by decide) ?_
    exact hend _ _ _ _ _ hk2
  · refine ga_aload_n C.1 dL_law_2017 rfl rfl ?_
    refine ga_iconst C.1 dL_law_2018 (v := 0) (by decide) ?_
    refine la_lald C dL_law_2019 ?_
    refine ga_iload C.1 dL_law_2020 rfl ?_
    refine ga_i2l C.1 dL_law_2022 ?_
    refine ga_lcmp C.1 dL_law_2023 ?_
    refine ga_if_eq C.1 dL_law_2024 (tgt := 2029) (by decide) (fun c3 => ?_) (fun c3 => absurd (lg_cmp_same (hk3 c2)) c3)
    refine ga_goto C.1 dL_law_2029 (tgt := 2278) (by decide) ?_
    exact hend _ _ _ _ _ hk2
set_option maxRecDepth 100000 in
set_option maxHeartbeats 4000000 in
theorem lcase_unpack {g : wG} {Gr : rG} {X : rX} {b L : Nat} {xs : Nat → Int32} {Q : State → Prop} {o i : Nat} {Inv Inv2 : cS → rS → Prop} {z : cS} {S : rS} {f : Nat → Int64} {kc ks : Nat} (C : lC g Gr X b L xs) (hin : ∀ c : Nat, c < 6 → vp_in (nI i + nI c) L) (hI : Inv z S) (hO : ∀ z S, Inv z S → ∃ n, z.1 o = some (6, n)) (hsim : sim_unpack o Inv Inv2) (hk : kc + 100 ≤ 601024) (hs : ks + 14000 ≤ 7293034)
    (hend : ∀ z' S' f' k5 k6, Inv2 z' S' → gAW X (lR g Gr X.2.2.2.2.1.heap.size) (lA X.2.2.2.2.1.heap.size) Q 7 2278 [some (.ref b), some (.ref o), some (.ref Gr.2.2.2.1), some (.ref g.2.1), some (.int (nI i)), k5, k6] [] (z', S', f') (kc + 100) (ks + 14000)) : gAW X (lR g Gr X.2.2.2.2.1.heap.size) (lA X.2.2.2.2.1.heap.size) Q 7 2032 [some (.ref b), some (.ref o), some (.ref Gr.2.2.2.1), some (.ref g.2.1), some (.int (nI i)), none, none] [] (z, S, f) kc ks := by
  obtain ⟨n0, hq⟩ := hO z S hI
  refine ga_aload_n C.1 dL_law_2032 rfl rfl ?_
  refine ga_aload_n C.1 dL_law_2033 rfl rfl ?_
  refine ga_iload C.1 dL_law_2034 rfl ?_
  refine ga_iconst C.1 dL_law_2036 (v := 1) (by decide) ?_
  refine ga_iadd C.1 dL_law_2037 ?_
  refine la_sld C dL_law_2038 (hin 1 (by decide)) ?_
  obtain ⟨P, hsp, hE, v, S1, hv, hl, hr⟩ := hsim z S (xs (nI i + 1).toNatClampNeg) hI
  refine ga_aload_n C.1 dL_law_2039 rfl rfl ?_
  refine la_callW C dL_law_2040 (fun sz => wM_unpack (C.2.2.2.2.2.2.2.2.2.2.2.2.1) hq hsp hE) rfl lL_207 lT_L_unpack tL_init lC_L_unpack lH_L_unpack (by decide) (by decide) (Nat.le_of_ble_eq_true rfl) hk hs (fun k w2 hF => ?_)
  refine ga_istore C.1 dL_law_2043 (by decide) ?_
  refine ga_aload_n C.1 dL_law_2045 rfl rfl ?_
  refine ga_aload_n C.1 dL_law_2046 rfl rfl ?_
  refine ga_iload C.1 dL_law_2047 rfl ?_
  refine ga_iconst C.1 dL_law_2049 (v := 1) (by decide) ?_
  refine ga_iadd C.1 dL_law_2050 ?_
  refine la_sld C dL_law_2051 (hin 1 (by decide)) ?_
  refine la_callR C dL_law_2052 (mX7_unpack hv) rfl lL_209 lI_X7_unpack lS_X7_unpack tX7_init lC_X7_unpack lH_X7_unpack (by decide) (by decide) (Nat.le_of_ble_eq_true rfl) (by omega) (by omega) ?_
  refine ga_istore C.1 dL_law_2055 (by decide) ?_
  refine ga_aload_n C.1 dL_law_2057 rfl rfl ?_
  refine la_callR C dL_law_2058 (mX7_thrown (r := (S1.1 54, S1)) rfl) rfl lL_122 lI_X7_thrown lS_X7_thrown tX7_init lC_X7_thrown lH_X7_thrown (by decide) (by decide) (Nat.le_of_ble_eq_true rfl) (by omega) (by omega) ?_
  refine ga_iload C.1 dL_law_2061 rfl ?_
  have hkk : S1.1 54 = k ∧ Inv2 w2.1 S1 ∧ (k = 0 → w2.2 0 = v.toInt64) := by
    rcases hF with ⟨w, hP, rfl, ho⟩ | ⟨e, hP, rfl⟩
    · obtain ⟨q1, rfl, q3⟩ := hl w _ hP; exact ⟨q1, q3, fun _ => ho⟩
    · obtain ⟨q1, q2⟩ := hr e _ hP; refine ⟨q1, q2, fun h => ?_⟩; rcases hE e _ hP with rfl | rfl <;> exact absurd h (by decide)
  obtain ⟨hk1, hk2, hk3⟩ := hkk
  refine ga_icmp_eq C.1 dL_law_2063 (tgt := 2068) (by decide) (fun c1 => ?_) (fun c1 => absurd hk1 c1)
  refine ga_iload C.1 dL_law_2068 rfl ?_
  refine ga_if_ne C.1 dL_law_2070 (tgt := 2085) (by decide) (fun c2 => ?_) (fun c2 => ?_)
  · refine ga_goto C.1 dL_law_2085 (tgt := 2278) (by decide) ?_
    exact hend _ _ _ _ _ hk2
  · refine ga_aload_n C.1 dL_law_2073 rfl rfl ?_
    refine ga_iconst C.1 dL_law_2074 (v := 0) (by decide) ?_
    refine la_lald C dL_law_2075 ?_
    refine ga_iload C.1 dL_law_2076 rfl ?_
    refine ga_i2l C.1 dL_law_2078 ?_
    refine ga_lcmp C.1 dL_law_2079 ?_
    refine ga_if_eq C.1 dL_law_2080 (tgt := 2085) (by decide) (fun c3 => ?_) (fun c3 => absurd (lg_cmp_same (hk3 c2)) c3)
    refine ga_goto C.1 dL_law_2085 (tgt := 2278) (by decide) ?_
    exact hend _ _ _ _ _ hk2
set_option maxRecDepth 100000 in
set_option maxHeartbeats 4000000 in
theorem lcase_unit {g : wG} {Gr : rG} {X : rX} {b L : Nat} {xs : Nat → Int32} {Q : State → Prop} {o i : Nat} {Inv Inv2 : cS → rS → Prop} {z : cS} {S : rS} {f : Nat → Int64} {kc ks : Nat} (C : lC g Gr X b L xs) (hin : ∀ c : Nat, c < 6 → vp_in (nI i + nI c) L) (hI : Inv z S) (hO : ∀ z S, Inv z S → ∃ n, z.1 o = some (6, n)) (hsim : sim_unit o Inv Inv2) (hk : kc + 100 ≤ 601024) (hs : ks + 14000 ≤ 7293034)
    (hend : ∀ z' S' f' k5 k6, Inv2 z' S' → gAW X (lR g Gr X.2.2.2.2.1.heap.size) (lA X.2.2.2.2.1.heap.size) Q 7 2278 [some (.ref b), some (.ref o), some (.ref Gr.2.2.2.1), some (.ref g.2.1), some (.int (nI i)), k5, k6] [] (z', S', f') (kc + 100) (ks + 14000)) : gAW X (lR g Gr X.2.2.2.2.1.heap.size) (lA X.2.2.2.2.1.heap.size) Q 7 2088 [some (.ref b), some (.ref o), some (.ref Gr.2.2.2.1), some (.ref g.2.1), some (.int (nI i)), none, none] [] (z, S, f) kc ks := by
  obtain ⟨n0, hq⟩ := hO z S hI
  refine ga_aload_n C.1 dL_law_2088 rfl rfl ?_
  refine ga_aload_n C.1 dL_law_2089 rfl rfl ?_
  refine ga_iload C.1 dL_law_2090 rfl ?_
  refine ga_iconst C.1 dL_law_2092 (v := 1) (by decide) ?_
  refine ga_iadd C.1 dL_law_2093 ?_
  refine la_sld C dL_law_2094 (hin 1 (by decide)) ?_
  refine ga_aload_n C.1 dL_law_2095 rfl rfl ?_
  refine ga_iload C.1 dL_law_2096 rfl ?_
  refine ga_iconst C.1 dL_law_2098 (v := 2) (by decide) ?_
  refine ga_iadd C.1 dL_law_2099 ?_
  refine la_sld C dL_law_2100 (hin 2 (by decide)) ?_
  refine ga_aload_n C.1 dL_law_2101 rfl rfl ?_
  refine ga_iload C.1 dL_law_2102 rfl ?_
  refine ga_iconst C.1 dL_law_2104 (v := 3) (by decide) ?_
  refine ga_iadd C.1 dL_law_2105 ?_
  refine la_sld C dL_law_2106 (hin 3 (by decide)) ?_
  refine ga_bool C.1 (t1 := 2114) (t2 := 2115) dL_law_2107 (by decide) dL_law_2110 dL_law_2111 (by decide) dL_law_2114 rfl ?_
  obtain ⟨P, hsp, hE, v, S1, hv, hl, hr⟩ := hsim z S (xs (nI i + 1).toNatClampNeg) (xs (nI i + 2).toNatClampNeg) (if (xs (nI i + 3).toNatClampNeg) = 0 then 0 else 1) (by split <;> simp) hI
  refine ga_aload_n C.1 dL_law_2115 rfl rfl ?_
  refine la_callW C dL_law_2116 (fun sz => wM_unit (C.2.2.2.2.2.2.2.2.2.2.2.2.1) hq hsp hE) rfl lL_210 lT_L_unit tL_init lC_L_unit lH_L_unit (by decide) (by decide) (Nat.le_of_ble_eq_true rfl) hk hs (fun k w2 hF => ?_)
  refine ga_istore C.1 dL_law_2119 (by decide) ?_
  refine ga_aload_n C.1 dL_law_2121 rfl rfl ?_
  refine ga_aload_n C.1 dL_law_2122 rfl rfl ?_
  refine ga_iload C.1 dL_law_2123 rfl ?_
  refine ga_iconst C.1 dL_law_2125 (v := 1) (by decide) ?_
  refine ga_iadd C.1 dL_law_2126 ?_
  refine la_sld C dL_law_2127 (hin 1 (by decide)) ?_
  refine ga_aload_n C.1 dL_law_2128 rfl rfl ?_
  refine ga_iload C.1 dL_law_2129 rfl ?_
  refine ga_iconst C.1 dL_law_2131 (v := 2) (by decide) ?_
  refine ga_iadd C.1 dL_law_2132 ?_
  refine la_sld C dL_law_2133 (hin 2 (by decide)) ?_
  refine ga_aload_n C.1 dL_law_2134 rfl rfl ?_
  refine ga_iload C.1 dL_law_2135 rfl ?_
  refine ga_iconst C.1 dL_law_2137 (v := 3) (by decide) ?_
  refine ga_iadd C.1 dL_law_2138 ?_
  refine la_sld C dL_law_2139 (hin 3 (by decide)) ?_
  refine ga_bool C.1 (t1 := 2147) (t2 := 2148) dL_law_2140 (by decide) dL_law_2143 dL_law_2144 (by decide) dL_law_2147 rfl ?_
  refine la_callR C dL_law_2148 (mX7_unit hv) rfl lL_212 lI_X7_unit lS_X7_unit tX7_init lC_X7_unit lH_X7_unit (by decide) (by decide) (Nat.le_of_ble_eq_true rfl) (by omega) (by omega) ?_
  refine ga_istore C.1 dL_law_2151 (by decide) ?_
  refine ga_aload_n C.1 dL_law_2153 rfl rfl ?_
  refine la_callR C dL_law_2154 (mX7_thrown (r := (S1.1 54, S1)) rfl) rfl lL_122 lI_X7_thrown lS_X7_thrown tX7_init lC_X7_thrown lH_X7_thrown (by decide) (by decide) (Nat.le_of_ble_eq_true rfl) (by omega) (by omega) ?_
  refine ga_iload C.1 dL_law_2157 rfl ?_
  have hkk : S1.1 54 = k ∧ Inv2 w2.1 S1 ∧ (k = 0 → w2.2 0 = v.toInt64) := by
    rcases hF with ⟨w, hP, rfl, ho⟩ | ⟨e, hP, rfl⟩
    · obtain ⟨q1, rfl, q3⟩ := hl w _ hP; exact ⟨q1, q3, fun _ => ho⟩
    · obtain ⟨q1, q2⟩ := hr e _ hP; refine ⟨q1, q2, fun h => ?_⟩; rcases hE e _ hP with rfl | rfl <;> exact absurd h (by decide)
  obtain ⟨hk1, hk2, hk3⟩ := hkk
  refine ga_icmp_eq C.1 dL_law_2159 (tgt := 2164) (by decide) (fun c1 => ?_) (fun c1 => absurd hk1 c1)
  refine ga_iload C.1 dL_law_2164 rfl ?_
  refine ga_if_ne C.1 dL_law_2166 (tgt := 2181) (by decide) (fun c2 => ?_) (fun c2 => ?_)
  · refine ga_goto C.1 dL_law_2181 (tgt := 2278) (by decide) ?_
    exact hend _ _ _ _ _ hk2
  · refine ga_aload_n C.1 dL_law_2169 rfl rfl ?_
    refine ga_iconst C.1 dL_law_2170 (v := 0) (by decide) ?_
    refine la_lald C dL_law_2171 ?_
    refine ga_iload C.1 dL_law_2172 rfl ?_
    refine ga_i2l C.1 dL_law_2174 ?_
    refine ga_lcmp C.1 dL_law_2175 ?_
    refine ga_if_eq C.1 dL_law_2176 (tgt := 2181) (by decide) (fun c3 => ?_) (fun c3 => absurd (lg_cmp_same (hk3 c2)) c3)
    refine ga_goto C.1 dL_law_2181 (tgt := 2278) (by decide) ?_
    exact hend _ _ _ _ _ hk2
set_option maxRecDepth 100000 in
set_option maxHeartbeats 4000000 in
theorem lcase_change {g : wG} {Gr : rG} {X : rX} {b L : Nat} {xs : Nat → Int32} {Q : State → Prop} {o i : Nat} {Inv Inv2 : cS → rS → Prop} {z : cS} {S : rS} {f : Nat → Int64} {kc ks : Nat} (C : lC g Gr X b L xs) (hin : ∀ c : Nat, c < 6 → vp_in (nI i + nI c) L) (hI : Inv z S) (hO : ∀ z S, Inv z S → ∃ n, z.1 o = some (6, n)) (hsim : sim_change o Inv Inv2) (hk : kc + 100 ≤ 601024) (hs : ks + 14000 ≤ 7293034)
    (hend : ∀ z' S' f' k5 k6, Inv2 z' S' → gAW X (lR g Gr X.2.2.2.2.1.heap.size) (lA X.2.2.2.2.1.heap.size) Q 7 2278 [some (.ref b), some (.ref o), some (.ref Gr.2.2.2.1), some (.ref g.2.1), some (.int (nI i)), k5, k6] [] (z', S', f') (kc + 100) (ks + 14000)) : gAW X (lR g Gr X.2.2.2.2.1.heap.size) (lA X.2.2.2.2.1.heap.size) Q 7 2184 [some (.ref b), some (.ref o), some (.ref Gr.2.2.2.1), some (.ref g.2.1), some (.int (nI i)), none, none] [] (z, S, f) kc ks := by
  obtain ⟨n0, hq⟩ := hO z S hI
  refine ga_aload_n C.1 dL_law_2184 rfl rfl ?_
  refine ga_aload_n C.1 dL_law_2185 rfl rfl ?_
  refine ga_iload C.1 dL_law_2186 rfl ?_
  refine ga_iconst C.1 dL_law_2188 (v := 1) (by decide) ?_
  refine ga_iadd C.1 dL_law_2189 ?_
  refine la_sld C dL_law_2190 (hin 1 (by decide)) ?_
  refine ga_aload_n C.1 dL_law_2191 rfl rfl ?_
  refine ga_iload C.1 dL_law_2192 rfl ?_
  refine ga_iconst C.1 dL_law_2194 (v := 2) (by decide) ?_
  refine ga_iadd C.1 dL_law_2195 ?_
  refine la_sld C dL_law_2196 (hin 2 (by decide)) ?_
  obtain ⟨P, hsp, hE, v, S1, hv, hl, hr⟩ := hsim z S (xs (nI i + 1).toNatClampNeg) (xs (nI i + 2).toNatClampNeg) hI
  refine ga_aload_n C.1 dL_law_2197 rfl rfl ?_
  refine la_callW C dL_law_2198 (fun sz => wM_change (C.2.2.2.2.2.2.2.2.2.2.2.2.1) hq hsp hE) rfl lL_213 lT_L_change tL_init lC_L_change lH_L_change (by decide) (by decide) (Nat.le_of_ble_eq_true rfl) hk hs (fun k w2 hF => ?_)
  refine ga_istore C.1 dL_law_2201 (by decide) ?_
  refine ga_aload_n C.1 dL_law_2203 rfl rfl ?_
  refine ga_aload_n C.1 dL_law_2204 rfl rfl ?_
  refine ga_iload C.1 dL_law_2205 rfl ?_
  refine ga_iconst C.1 dL_law_2207 (v := 1) (by decide) ?_
  refine ga_iadd C.1 dL_law_2208 ?_
  refine la_sld C dL_law_2209 (hin 1 (by decide)) ?_
  refine ga_aload_n C.1 dL_law_2210 rfl rfl ?_
  refine ga_iload C.1 dL_law_2211 rfl ?_
  refine ga_iconst C.1 dL_law_2213 (v := 2) (by decide) ?_
  refine ga_iadd C.1 dL_law_2214 ?_
  refine la_sld C dL_law_2215 (hin 2 (by decide)) ?_
  refine la_callR C dL_law_2216 (mX7_change hv) rfl lL_215 lI_X7_change lS_X7_change tX7_init lC_X7_change lH_X7_change (by decide) (by decide) (Nat.le_of_ble_eq_true rfl) (by omega) (by omega) ?_
  refine ga_istore C.1 dL_law_2219 (by decide) ?_
  refine ga_aload_n C.1 dL_law_2221 rfl rfl ?_
  refine la_callR C dL_law_2222 (mX7_thrown (r := (S1.1 54, S1)) rfl) rfl lL_122 lI_X7_thrown lS_X7_thrown tX7_init lC_X7_thrown lH_X7_thrown (by decide) (by decide) (Nat.le_of_ble_eq_true rfl) (by omega) (by omega) ?_
  refine ga_iload C.1 dL_law_2225 rfl ?_
  have hkk : S1.1 54 = k ∧ Inv2 w2.1 S1 ∧ (k = 0 → w2.2 0 = v.toInt64) := by
    rcases hF with ⟨w, hP, rfl, ho⟩ | ⟨e, hP, rfl⟩
    · obtain ⟨q1, rfl, q3⟩ := hl w _ hP; exact ⟨q1, q3, fun _ => ho⟩
    · obtain ⟨q1, q2⟩ := hr e _ hP; refine ⟨q1, q2, fun h => ?_⟩; obtain rfl := hE e _ hP; exact absurd h (by decide)
  obtain ⟨hk1, hk2, hk3⟩ := hkk
  refine ga_icmp_eq C.1 dL_law_2227 (tgt := 2232) (by decide) (fun c1 => ?_) (fun c1 => absurd hk1 c1)
  refine ga_iload C.1 dL_law_2232 rfl ?_
  refine ga_if_ne C.1 dL_law_2234 (tgt := 2249) (by decide) (fun c2 => ?_) (fun c2 => ?_)
  · refine ga_goto C.1 dL_law_2249 (tgt := 2278) (by decide) ?_
    exact hend _ _ _ _ _ hk2
  · refine ga_aload_n C.1 dL_law_2237 rfl rfl ?_
    refine ga_iconst C.1 dL_law_2238 (v := 0) (by decide) ?_
    refine la_lald C dL_law_2239 ?_
    refine ga_iload C.1 dL_law_2240 rfl ?_
    refine ga_i2l C.1 dL_law_2242 ?_
    refine ga_lcmp C.1 dL_law_2243 ?_
    refine ga_if_eq C.1 dL_law_2244 (tgt := 2249) (by decide) (fun c3 => ?_) (fun c3 => absurd (lg_cmp_same (hk3 c2)) c3)
    refine ga_goto C.1 dL_law_2249 (tgt := 2278) (by decide) ?_
    exact hend _ _ _ _ _ hk2
set_option maxRecDepth 100000 in
set_option maxHeartbeats 4000000 in
theorem lcase_stale {g : wG} {Gr : rG} {X : rX} {b L : Nat} {xs : Nat → Int32} {Q : State → Prop} {o i : Nat} {Inv Inv2 : cS → rS → Prop} {z : cS} {S : rS} {f : Nat → Int64} {kc ks : Nat} (C : lC g Gr X b L xs) (hin : ∀ c : Nat, c < 6 → vp_in (nI i + nI c) L) (hI : Inv z S) (hO : ∀ z S, Inv z S → ∃ n, z.1 o = some (6, n)) (hsim : sim_stale o Inv Inv2) (hk : kc + 100 ≤ 601024) (hs : ks + 14000 ≤ 7293034)
    (hend : ∀ z' S' f' k5 k6, Inv2 z' S' → gAW X (lR g Gr X.2.2.2.2.1.heap.size) (lA X.2.2.2.2.1.heap.size) Q 7 2278 [some (.ref b), some (.ref o), some (.ref Gr.2.2.2.1), some (.ref g.2.1), some (.int (nI i)), k5, k6] [] (z', S', f') (kc + 100) (ks + 14000)) : gAW X (lR g Gr X.2.2.2.2.1.heap.size) (lA X.2.2.2.2.1.heap.size) Q 7 2252 [some (.ref b), some (.ref o), some (.ref Gr.2.2.2.1), some (.ref g.2.1), some (.int (nI i)), none, none] [] (z, S, f) kc ks := by
  obtain ⟨n0, hq⟩ := hO z S hI
  obtain ⟨P, hsp, v, S1, hv, hl⟩ := hsim z S hI
  refine ga_aload_n C.1 dL_law_2252 rfl rfl ?_
  refine la_callP C (fn := fX6_stale o) (P := P) dL_law_2253 (fun z2 v2 z3 h => mX6_stale C.2.2.2.2.2.2.2.2.2.2.2.2.1 h) hsp hq rfl lL_216 lI_X6_stale lS_X6_stale tZ6 lC_X6_stale lH_X6_stale (by decide) (by decide) (Nat.le_of_ble_eq_true rfl) (by omega) (by omega) (fun w z2 hP => ?_)
  refine ga_aload_n C.1 dL_law_2256 rfl rfl ?_
  refine la_callR C dL_law_2257 (mX7_stale hv) rfl lL_219 lI_X7_stale lS_X7_stale tX7_init lC_X7_stale lH_X7_stale (by decide) (by decide) (Nat.le_of_ble_eq_true rfl) (by omega) (by omega) ?_
  obtain ⟨rfl, hk2⟩ := hl w z2 hP
  refine ga_icmp_eq C.1 dL_law_2260 (tgt := 2278) (by decide) (fun c1 => ?_) (fun c1 => absurd rfl c1)
  exact ga_widen (by omega) (by omega) (hend _ _ _ _ _ hk2)
set_option maxRecDepth 100000 in
set_option maxHeartbeats 4000000 in
theorem lcase_build {g : wG} {Gr : rG} {X : rX} {b L : Nat} {xs : Nat → Int32} {Q : State → Prop} {o i : Nat} {Inv Inv2 : cS → rS → Prop} {z : cS} {S : rS} {f : Nat → Int64} {kc ks : Nat} (C : lC g Gr X b L xs) (hin : ∀ c : Nat, c < 6 → vp_in (nI i + nI c) L) (hI : Inv z S) (hO : ∀ z S, Inv z S → ∃ n, z.1 o = some (6, n)) (hsim : sim_build o Inv Inv2) (hk : kc + 100 ≤ 601024) (hs : ks + 14000 ≤ 7293034)
    (hend : ∀ z' S' f' k5 k6, Inv2 z' S' → gAW X (lR g Gr X.2.2.2.2.1.heap.size) (lA X.2.2.2.2.1.heap.size) Q 7 2278 [some (.ref b), some (.ref o), some (.ref Gr.2.2.2.1), some (.ref g.2.1), some (.int (nI i)), k5, k6] [] (z', S', f') (kc + 100) (ks + 14000)) : gAW X (lR g Gr X.2.2.2.2.1.heap.size) (lA X.2.2.2.2.1.heap.size) Q 7 2265 [some (.ref b), some (.ref o), some (.ref Gr.2.2.2.1), some (.ref g.2.1), some (.int (nI i)), none, none] [] (z, S, f) kc ks := by
  obtain ⟨n0, hq⟩ := hO z S hI
  obtain ⟨P, hsp, v, S1, hv, hl⟩ := hsim z S hI
  refine ga_aload_n C.1 dL_law_2265 rfl rfl ?_
  refine la_callP C (fn := fX6_build o) (P := P) dL_law_2266 (fun z2 v2 z3 h => mX6_build C.2.2.2.2.2.2.2.2.2.2.2.2.1 h) hsp hq rfl lL_220 lI_X6_build lS_X6_build tZ6 lC_X6_build lH_X6_build (by decide) (by decide) (Nat.le_of_ble_eq_true rfl) (by omega) (by omega) (fun w z2 hP => ?_)
  refine ga_aload_n C.1 dL_law_2269 rfl rfl ?_
  refine la_callR C dL_law_2270 (mX7_build hv) rfl lL_223 lI_X7_build lS_X7_build tX7_init lC_X7_build lH_X7_build (by decide) (by decide) (Nat.le_of_ble_eq_true rfl) (by omega) (by omega) ?_
  obtain ⟨rfl, hk2⟩ := hl w z2 hP
  refine ga_icmp_eq C.1 dL_law_2273 (tgt := 2278) (by decide) (fun c1 => ?_) (fun c1 => absurd rfl c1)
  exact ga_widen (by omega) (by omega) (hend _ _ _ _ _ hk2)
