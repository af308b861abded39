/-! a walk over a world of any kind w, that R puts into the heap: for the law and its wrappers -/
def gAW {K : Type} (X : rX) (R : K → Heap → Prop) (A : Nat → Prop) (Q : State → Prop) (nL pc : Nat) (lo : List (Option Value)) (st : List Value) (w : K) (k n : Nat) : Prop :=
  ∀ (H : Heap) (locs : List Loc) (ls : Array Slot), R w H → va_S A X.2.2.2.2.1.heap H locs → rLo ls nL lo → W X.1 X.2.1 X.2.2.1 X.2.2.2.1 X.2.2.2.2.1 X.2.2.2.2.2.1 X.2.2.2.2.2.2.1 X.2.2.2.2.2.2.2.1 X.2.2.2.2.2.2.2.2.1 X.2.2.2.2.2.2.2.2.2 H locs k n Q (F0 X.2.2.2.2.2.1 pc ls st)
def gC (X : rX) (nL : Nat) (cc : ByteArray) : Prop := X.1.tables.exec = Jvm.exec ∧ X.2.2.2.2.2.2.2.2.2.code = cc ∧ X.2.2.2.2.2.2.2.2.2.maxLocals = nL
section GRules
variable {K : Type} {X : rX} {R : K → Heap → Prop} {A : Nat → Prop} {Q : State → Prop} {nL : Nat} {cc : ByteArray} {pc : Nat} {lo : List (Option Value)} {st : List Value} {w : K} {kc ks : Nat}
theorem ga_iconst (C : gC X nL cc) {n : Int} {v : Int32} (hdg : decode cc pc = .ok (.iconst n, 1)) (hv : Int32.ofInt n = v) (k : gAW X R A Q nL (pc + 1) lo (.int v :: st) w kc ks) : gAW X R A Q nL pc lo (st) w kc ks := fun H locs ls h1 h2 h3 => lv_iconst C.1 C.2.1 hdg hv (k H locs ls h1 h2 h3)
theorem ga_lconst (C : gC X nL cc) {n : Fin 2} {v : Int64} (hdg : decode cc pc = .ok (.lconst n, 1)) (hv : Int64.ofNat (n : Nat) = v) (k : gAW X R A Q nL (pc + 1) lo (.long v :: st) w kc ks) : gAW X R A Q nL pc lo (st) w kc ks := fun H locs ls h1 h2 h3 => lv_lconst C.1 C.2.1 hdg hv (k H locs ls h1 h2 h3)
theorem ga_bipush (C : gC X nL cc) {n : Int} {v : Int32} (hdg : decode cc pc = .ok (.bipush n, 2)) (hv : (Int8.ofInt n).toInt32 = v) (k : gAW X R A Q nL (pc + 2) lo (.int v :: st) w kc ks) : gAW X R A Q nL pc lo (st) w kc ks := fun H locs ls h1 h2 h3 => lv_bipush C.1 C.2.1 hdg hv (k H locs ls h1 h2 h3)
theorem ga_iload_n (C : gC X nL cc) {k0 : Fin 4} {i : Nat} {x : Int32} (hdg : decode cc pc = .ok (.iload_n k0, 1)) (hi : (k0 : Nat) = i) (hl : lo[i]? = some (some (.int x))) (k : gAW X R A Q nL (pc + 1) lo (.int x :: st) w kc ks) : gAW X R A Q nL pc lo (st) w kc ks := fun H locs ls h1 h2 h3 => lv_iload_n C.1 C.2.1 hdg hi (rLo_at h3 hl) (k H locs ls h1 h2 h3)
theorem ga_iload (C : gC X nL cc) {i : Nat} {x : Int32} (hdg : decode cc pc = .ok (.iload i, 2)) (hl : lo[i]? = some (some (.int x))) (k : gAW X R A Q nL (pc + 2) lo (.int x :: st) w kc ks) : gAW X R A Q nL pc lo (st) w kc ks := fun H locs ls h1 h2 h3 => lv_iload C.1 C.2.1 hdg (rLo_at h3 hl) (k H locs ls h1 h2 h3)
theorem ga_aload_n (C : gC X nL cc) {k0 : Fin 4} {i : Nat} {x : Nat} (hdg : decode cc pc = .ok (.aload_n k0, 1)) (hi : (k0 : Nat) = i) (hl : lo[i]? = some (some (.ref x))) (k : gAW X R A Q nL (pc + 1) lo (.ref x :: st) w kc ks) : gAW X R A Q nL pc lo (st) w kc ks := fun H locs ls h1 h2 h3 => lv_aload_n C.1 C.2.1 hdg hi (rLo_at h3 hl) (k H locs ls h1 h2 h3)
theorem ga_aload (C : gC X nL cc) {i : Nat} {x : Nat} (hdg : decode cc pc = .ok (.aload i, 2)) (hl : lo[i]? = some (some (.ref x))) (k : gAW X R A Q nL (pc + 2) lo (.ref x :: st) w kc ks) : gAW X R A Q nL pc lo (st) w kc ks := fun H locs ls h1 h2 h3 => lv_aload C.1 C.2.1 hdg (rLo_at h3 hl) (k H locs ls h1 h2 h3)
theorem ga_iadd (C : gC X nL cc) {x y : Int32} (hdg : decode cc pc = .ok (.iadd, 1))  (k : gAW X R A Q nL (pc + 1) lo (.int (x + y) :: st) w kc ks) : gAW X R A Q nL pc lo (.int y :: .int x :: st) w kc ks := fun H locs ls h1 h2 h3 => lv_iadd C.1 C.2.1 hdg  (k H locs ls h1 h2 h3)
theorem ga_isub (C : gC X nL cc) {x y : Int32} (hdg : decode cc pc = .ok (.isub, 1))  (k : gAW X R A Q nL (pc + 1) lo (.int (x - y) :: st) w kc ks) : gAW X R A Q nL pc lo (.int y :: .int x :: st) w kc ks := fun H locs ls h1 h2 h3 => lv_isub C.1 C.2.1 hdg  (k H locs ls h1 h2 h3)
theorem ga_iand (C : gC X nL cc) {x y : Int32} (hdg : decode cc pc = .ok (.iand, 1))  (k : gAW X R A Q nL (pc + 1) lo (.int (x &&& y) :: st) w kc ks) : gAW X R A Q nL pc lo (.int y :: .int x :: st) w kc ks := fun H locs ls h1 h2 h3 => lv_iand C.1 C.2.1 hdg  (k H locs ls h1 h2 h3)
theorem ga_i2l (C : gC X nL cc) {x : Int32} (hdg : decode cc pc = .ok (.i2l, 1))  (k : gAW X R A Q nL (pc + 1) lo (.long x.toInt64 :: st) w kc ks) : gAW X R A Q nL pc lo (.int x :: st) w kc ks := fun H locs ls h1 h2 h3 => lv_i2l C.1 C.2.1 hdg rfl (k H locs ls h1 h2 h3)
theorem ga_lcmp (C : gC X nL cc) {x y : Int64} (hdg : decode cc pc = .ok (.lcmp, 1))  (k : gAW X R A Q nL (pc + 1) lo (.int (lg_cmp x y) :: st) w kc ks) : gAW X R A Q nL pc lo (.long y :: .long x :: st) w kc ks := fun H locs ls h1 h2 h3 => W.lcmp C.1 C.2.1 hdg  (k H locs ls h1 h2 h3)
theorem ga_dup (C : gC X nL cc) {v : Value} (hdg : decode cc pc = .ok (.dup, 1)) (hc : v.category = 1) (k : gAW X R A Q nL (pc + 1) lo (v :: v :: st) w kc ks) : gAW X R A Q nL pc lo (v :: st) w kc ks := fun H locs ls h1 h2 h3 => lv_dup C.1 C.2.1 hdg hc (k H locs ls h1 h2 h3)
theorem ga_pop (C : gC X nL cc) {v : Value} (hdg : decode cc pc = .ok (.pop, 1)) (hc : v.category = 1) (k : gAW X R A Q nL (pc + 1) lo (st) w kc ks) : gAW X R A Q nL pc lo (v :: st) w kc ks := fun H locs ls h1 h2 h3 => lv_pop C.1 C.2.1 hdg hc (k H locs ls h1 h2 h3)
theorem ga_if_eq (C : gC X nL cc) {x : Int32} {off : Int} {tgt : Nat} (hdg : decode cc pc = .ok (.ifCond .eq off, 3)) (ht : (pc : Int) + off = (tgt : Int)) (kt : x = 0 → gAW X R A Q nL tgt lo st w kc ks) (kf : ¬ x = 0 → gAW X R A Q nL (pc + 3) lo st w kc ks) : gAW X R A Q nL pc lo (.int x :: st) w kc ks := fun H locs ls h1 h2 h3 => lv_if_eq C.1 C.2.1 hdg ht (fun q => kt q H locs ls h1 h2 h3) (fun q => kf q H locs ls h1 h2 h3)
theorem ga_if_ne (C : gC X nL cc) {x : Int32} {off : Int} {tgt : Nat} (hdg : decode cc pc = .ok (.ifCond .ne off, 3)) (ht : (pc : Int) + off = (tgt : Int)) (kt : ¬ x = 0 → gAW X R A Q nL tgt lo st w kc ks) (kf : x = 0 → gAW X R A Q nL (pc + 3) lo st w kc ks) : gAW X R A Q nL pc lo (.int x :: st) w kc ks := fun H locs ls h1 h2 h3 => lv_if_ne C.1 C.2.1 hdg ht (fun q => kt q H locs ls h1 h2 h3) (fun q => kf q H locs ls h1 h2 h3)
theorem ga_icmp_eq (C : gC X nL cc) {x y : Int32} {off : Int} {tgt : Nat} (hdg : decode cc pc = .ok (.if_icmp .eq off, 3)) (ht : (pc : Int) + off = (tgt : Int)) (kt : x = y → gAW X R A Q nL tgt lo st w kc ks) (kf : ¬ x = y → gAW X R A Q nL (pc + 3) lo st w kc ks) : gAW X R A Q nL pc lo (.int y :: .int x :: st) w kc ks := fun H locs ls h1 h2 h3 => lv_icmp_eq C.1 C.2.1 hdg ht (fun q => kt q H locs ls h1 h2 h3) (fun q => kf q H locs ls h1 h2 h3)
theorem ga_icmp_gt (C : gC X nL cc) {x y : Int32} {off : Int} {tgt : Nat} (hdg : decode cc pc = .ok (.if_icmp .gt off, 3)) (ht : (pc : Int) + off = (tgt : Int)) (kt : y < x → gAW X R A Q nL tgt lo st w kc ks) (kf : ¬ y < x → gAW X R A Q nL (pc + 3) lo st w kc ks) : gAW X R A Q nL pc lo (.int y :: .int x :: st) w kc ks := fun H locs ls h1 h2 h3 => lv_icmp_gt C.1 C.2.1 hdg ht (fun q => kt q H locs ls h1 h2 h3) (fun q => kf q H locs ls h1 h2 h3)
theorem ga_goto (C : gC X nL cc) {off : Int} {tgt : Nat} (hdg : decode cc pc = .ok (.goto off, 3)) (ht : (pc : Int) + off = (tgt : Int)) (k : gAW X R A Q nL tgt lo st w kc ks) : gAW X R A Q nL pc lo st w kc ks := fun H locs ls h1 h2 h3 => lv_goto C.1 C.2.1 hdg ht (k H locs ls h1 h2 h3)
theorem ga_mask (bs : List Bool) (k : gAW X R A Q nL pc (rMask lo bs) st w kc ks) : gAW X R A Q nL pc lo st w kc ks := fun H locs ls h1 h2 h3 => k H locs ls h1 h2 (rLo_mask bs h3)
theorem ga_istore_n (C : gC X nL cc) {k0 : Fin 4} {i : Nat} {x : Int32} (hdg : decode cc pc = .ok (.istore_n k0, 1)) (hi : (k0 : Nat) = i) (hn : i < nL) (kk : gAW X R A Q nL (pc + 1) (lo.set i (some (.int x))) st w kc ks) : gAW X R A Q nL pc lo (.int x :: st) w kc ks := by
  intro H locs ls h1 h2 h3
  obtain ⟨ls', e', h'⟩ := rLo_store (v := .int x) h3 hn rfl
  have hx := C.1
  have hb := C.2.1
  obtain ⟨p, l, e, R', s, m, args, below, meth, c⟩ := X
  subst hi
  intro T hT Y
  obtain ⟨t', a', b'⟩ := kk H locs ls' h1 h2 h' T hT Y
  refine ⟨t', ?_, b'⟩
  dsimp only at hx hb a' Y ⊢
  jvm_step Y.here [Y.here.top, ↓top_set Y.here.top, hx, hb, hdg, e']
  exact a'
theorem ga_istore (C : gC X nL cc)  {i : Nat} {x : Int32} (hdg : decode cc pc = .ok (.istore i, 2))  (hn : i < nL) (kk : gAW X R A Q nL (pc + 2) (lo.set i (some (.int x))) st w kc ks) : gAW X R A Q nL pc lo (.int x :: st) w kc ks := by
  intro H locs ls h1 h2 h3
  obtain ⟨ls', e', h'⟩ := rLo_store (v := .int x) h3 hn rfl
  have hx := C.1
  have hb := C.2.1
  obtain ⟨p, l, e, R', s, m, args, below, meth, c⟩ := X
  skip
  intro T hT Y
  obtain ⟨t', a', b'⟩ := kk H locs ls' h1 h2 h' T hT Y
  refine ⟨t', ?_, b'⟩
  dsimp only at hx hb a' Y ⊢
  jvm_step Y.here [Y.here.top, ↓top_set Y.here.top, hx, hb, hdg, e']
  exact a'
theorem ga_astore_n (C : gC X nL cc) {k0 : Fin 4} {i : Nat} {x : Nat} (hdg : decode cc pc = .ok (.astore_n k0, 1)) (hi : (k0 : Nat) = i) (hn : i < nL) (kk : gAW X R A Q nL (pc + 1) (lo.set i (some (.ref x))) st w kc ks) : gAW X R A Q nL pc lo (.ref x :: st) w kc ks := by
  intro H locs ls h1 h2 h3
  obtain ⟨ls', e', h'⟩ := rLo_store (v := .ref x) h3 hn rfl
  have hx := C.1
  have hb := C.2.1
  obtain ⟨p, l, e, R', s, m, args, below, meth, c⟩ := X
  subst hi
  intro T hT Y
  obtain ⟨t', a', b'⟩ := kk H locs ls' h1 h2 h' T hT Y
  refine ⟨t', ?_, b'⟩
  dsimp only at hx hb a' Y ⊢
  jvm_step Y.here [Y.here.top, ↓top_set Y.here.top, hx, hb, hdg, e', Value.isRef]
  exact a'
theorem ga_astore (C : gC X nL cc)  {i : Nat} {x : Nat} (hdg : decode cc pc = .ok (.astore i, 2))  (hn : i < nL) (kk : gAW X R A Q nL (pc + 2) (lo.set i (some (.ref x))) st w kc ks) : gAW X R A Q nL pc lo (.ref x :: st) w kc ks := by
  intro H locs ls h1 h2 h3
  obtain ⟨ls', e', h'⟩ := rLo_store (v := .ref x) h3 hn rfl
  have hx := C.1
  have hb := C.2.1
  obtain ⟨p, l, e, R', s, m, args, below, meth, c⟩ := X
  skip
  intro T hT Y
  obtain ⟨t', a', b'⟩ := kk H locs ls' h1 h2 h' T hT Y
  refine ⟨t', ?_, b'⟩
  dsimp only at hx hb a' Y ⊢
  jvm_step Y.here [Y.here.top, ↓top_set Y.here.top, hx, hb, hdg, e', Value.isRef]
  exact a'
theorem ga_iinc (C : gC X nL cc) {i : Nat} {n : Int} {x v : Int32} (hdg : decode cc pc = .ok (.iinc i n, 3)) (hl : lo[i]? = some (some (.int x))) (hv : Int32.ofInt n = v) (hn : i < nL) (kk : gAW X R A Q nL (pc + 3) (lo.set i (some (.int (x + v)))) st w kc ks) : gAW X R A Q nL pc lo st w kc ks := by
  intro H locs ls h1 h2 h3
  subst hv
  have hg := rLo_at h3 hl
  obtain ⟨ls', e', h'⟩ := rLo_store (v := .int (x + Int32.ofInt n)) h3 hn rfl
  have hx := C.1
  have hb := C.2.1
  obtain ⟨p, l, e, R', s, m, args, below, meth, c⟩ := X
  intro T hT Y
  obtain ⟨t', a', b'⟩ := kk H locs ls' h1 h2 h' T hT Y
  refine ⟨t', ?_, b'⟩
  dsimp only at hx hb a' Y ⊢
  jvm_step Y.here [Y.here.top, ↓top_set Y.here.top, hx, hb, hdg, hg, e']
  exact a'
end GRules
