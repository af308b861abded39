section RRules
variable {G : rG} {X : rX} {nL d : Nat} {cc : ByteArray} {ret : Option FieldType} {r : Option Value × rS} {pc : Nat} {lo : List (Option Value)} {st : List Value} {S : rS}
theorem ra_iconst (C : rC G X nL cc ret d) {n : Int} {v : Int32} (hdg : decode cc pc = .ok (.iconst n, 1)) (hv : Int32.ofInt n = v) (k : rAW G X nL r (pc + 1) lo (.int v :: st) S) : rAW G X nL r pc lo (st) S := fun H locs ls h1 h2 h3 => lv_iconst C.1 C.2.1 hdg hv (k H locs ls h1 h2 h3)
theorem ra_bipush (C : rC G X nL cc ret d) {n : Int} {v : Int32} (hdg : decode cc pc = .ok (.bipush n, 2)) (hv : (Int8.ofInt n).toInt32 = v) (k : rAW G X nL r (pc + 2) lo (.int v :: st) S) : rAW G X nL r pc lo (st) S := fun H locs ls h1 h2 h3 => lv_bipush C.1 C.2.1 hdg hv (k H locs ls h1 h2 h3)
theorem ra_sipush (C : rC G X nL cc ret d) {n : Int} {v : Int32} (hdg : decode cc pc = .ok (.sipush n, 3)) (hv : (Int16.ofInt n).toInt32 = v) (k : rAW G X nL r (pc + 3) lo (.int v :: st) S) : rAW G X nL r pc lo (st) S := fun H locs ls h1 h2 h3 => lv_sipush C.1 C.2.1 hdg hv (k H locs ls h1 h2 h3)
theorem ra_iload_n (C : rC G X nL cc ret d) {k0 : Fin 4} {i : Nat} {x : Int32} (hdg : decode cc pc = .ok (.iload_n k0, 1)) (hi : (k0 : Nat) = i) (hl : lo[i]? = some (some (.int x))) (k : rAW G X nL r (pc + 1) lo (.int x :: st) S) : rAW G X nL r pc lo (st) S := fun H locs ls h1 h2 h3 => lv_iload_n C.1 C.2.1 hdg hi (rLo_at h3 hl) (k H locs ls h1 h2 h3)
theorem ra_iload (C : rC G X nL cc ret d) {i : Nat} {x : Int32} (hdg : decode cc pc = .ok (.iload i, 2)) (hl : lo[i]? = some (some (.int x))) (k : rAW G X nL r (pc + 2) lo (.int x :: st) S) : rAW G X nL r pc lo (st) S := fun H locs ls h1 h2 h3 => lv_iload C.1 C.2.1 hdg (rLo_at h3 hl) (k H locs ls h1 h2 h3)
theorem ra_aload_n (C : rC G X nL cc ret d) {k0 : Fin 4} {i : Nat} {x : Nat} (hdg : decode cc pc = .ok (.aload_n k0, 1)) (hi : (k0 : Nat) = i) (hl : lo[i]? = some (some (.ref x))) (k : rAW G X nL r (pc + 1) lo (.ref x :: st) S) : rAW G X nL r pc lo (st) S := fun H locs ls h1 h2 h3 => lv_aload_n C.1 C.2.1 hdg hi (rLo_at h3 hl) (k H locs ls h1 h2 h3)
theorem ra_iadd (C : rC G X nL cc ret d) {x y : Int32} (hdg : decode cc pc = .ok (.iadd, 1))  (k : rAW G X nL r (pc + 1) lo (.int (x + y) :: st) S) : rAW G X nL r pc lo (.int y :: .int x :: st) S := fun H locs ls h1 h2 h3 => lv_iadd C.1 C.2.1 hdg  (k H locs ls h1 h2 h3)
theorem ra_isub (C : rC G X nL cc ret d) {x y : Int32} (hdg : decode cc pc = .ok (.isub, 1))  (k : rAW G X nL r (pc + 1) lo (.int (x - y) :: st) S) : rAW G X nL r pc lo (.int y :: .int x :: st) S := fun H locs ls h1 h2 h3 => lv_isub C.1 C.2.1 hdg  (k H locs ls h1 h2 h3)
theorem ra_imul (C : rC G X nL cc ret d) {x y : Int32} (hdg : decode cc pc = .ok (.imul, 1))  (k : rAW G X nL r (pc + 1) lo (.int (x * y) :: st) S) : rAW G X nL r pc lo (.int y :: .int x :: st) S := fun H locs ls h1 h2 h3 => lv_imul C.1 C.2.1 hdg  (k H locs ls h1 h2 h3)
theorem ra_iand (C : rC G X nL cc ret d) {x y : Int32} (hdg : decode cc pc = .ok (.iand, 1))  (k : rAW G X nL r (pc + 1) lo (.int (x &&& y) :: st) S) : rAW G X nL r pc lo (.int y :: .int x :: st) S := fun H locs ls h1 h2 h3 => lv_iand C.1 C.2.1 hdg  (k H locs ls h1 h2 h3)
theorem ra_ior (C : rC G X nL cc ret d) {x y : Int32} (hdg : decode cc pc = .ok (.ior, 1))  (k : rAW G X nL r (pc + 1) lo (.int (x ||| y) :: st) S) : rAW G X nL r pc lo (.int y :: .int x :: st) S := fun H locs ls h1 h2 h3 => lv_ior C.1 C.2.1 hdg  (k H locs ls h1 h2 h3)
theorem ra_ishl (C : rC G X nL cc ret d) {x y : Int32} (hdg : decode cc pc = .ok (.ishl, 1))  (k : rAW G X nL r (pc + 1) lo (.int (x <<< (y &&& 31)) :: st) S) : rAW G X nL r pc lo (.int y :: .int x :: st) S := fun H locs ls h1 h2 h3 => lv_ishl C.1 C.2.1 hdg  (k H locs ls h1 h2 h3)
theorem ra_ishr (C : rC G X nL cc ret d) {x y : Int32} (hdg : decode cc pc = .ok (.ishr, 1))  (k : rAW G X nL r (pc + 1) lo (.int (x >>> (y &&& 31)) :: st) S) : rAW G X nL r pc lo (.int y :: .int x :: st) S := fun H locs ls h1 h2 h3 => lv_ishr C.1 C.2.1 hdg  (k H locs ls h1 h2 h3)
theorem ra_dup (C : rC G X nL cc ret d) {a : Value} (hdg : decode cc pc = .ok (.dup, 1)) (hc : a.category = 1) (k : rAW G X nL r (pc + 1) lo (a :: a :: st) S) : rAW G X nL r pc lo (a :: st) S := fun H locs ls h1 h2 h3 => lv_dup C.1 C.2.1 hdg hc (k H locs ls h1 h2 h3)
theorem ra_dup2 (C : rC G X nL cc ret d) {a b : Value} (hdg : decode cc pc = .ok (.dup2, 1)) (hc : a.category = 1) (hc2 : b.category = 1) (k : rAW G X nL r (pc + 1) lo (a :: b :: a :: b :: st) S) : rAW G X nL r pc lo (a :: b :: st) S := fun H locs ls h1 h2 h3 => lv_dup2_11 C.1 C.2.1 hdg hc hc2 (k H locs ls h1 h2 h3)
theorem ra_pop (C : rC G X nL cc ret d) {a : Value} (hdg : decode cc pc = .ok (.pop, 1)) (hc : a.category = 1) (k : rAW G X nL r (pc + 1) lo (st) S) : rAW G X nL r pc lo (a :: st) S := fun H locs ls h1 h2 h3 => lv_pop C.1 C.2.1 hdg hc (k H locs ls h1 h2 h3)
theorem ra_if_eq (C : rC G X nL cc ret d) {x : Int32} {off : Int} {tgt : Nat} (hdg : decode cc pc = .ok (.ifCond .eq off, 3)) (ht : (pc : Int) + off = (tgt : Int)) (kt : x = 0 → rAW G X nL r tgt lo st S) (kf : ¬ x = 0 → rAW G X nL r (pc + 3) lo st S) : rAW G X nL r pc lo (.int x :: st) S := fun H locs ls h1 h2 h3 => lv_if_eq C.1 C.2.1 hdg ht (fun q => kt q H locs ls h1 h2 h3) (fun q => kf q H locs ls h1 h2 h3)
theorem ra_if_ne (C : rC G X nL cc ret d) {x : Int32} {off : Int} {tgt : Nat} (hdg : decode cc pc = .ok (.ifCond .ne off, 3)) (ht : (pc : Int) + off = (tgt : Int)) (kt : ¬ x = 0 → rAW G X nL r tgt lo st S) (kf : x = 0 → rAW G X nL r (pc + 3) lo st S) : rAW G X nL r pc lo (.int x :: st) S := fun H locs ls h1 h2 h3 => lv_if_ne C.1 C.2.1 hdg ht (fun q => kt q H locs ls h1 h2 h3) (fun q => kf q H locs ls h1 h2 h3)
theorem ra_if_lt (C : rC G X nL cc ret d) {x : Int32} {off : Int} {tgt : Nat} (hdg : decode cc pc = .ok (.ifCond .lt off, 3)) (ht : (pc : Int) + off = (tgt : Int)) (kt : x < 0 → rAW G X nL r tgt lo st S) (kf : ¬ x < 0 → rAW G X nL r (pc + 3) lo st S) : rAW G X nL r pc lo (.int x :: st) S := fun H locs ls h1 h2 h3 => lv_if_lt C.1 C.2.1 hdg ht (fun q => kt q H locs ls h1 h2 h3) (fun q => kf q H locs ls h1 h2 h3)
theorem ra_if_ge (C : rC G X nL cc ret d) {x : Int32} {off : Int} {tgt : Nat} (hdg : decode cc pc = .ok (.ifCond .ge off, 3)) (ht : (pc : Int) + off = (tgt : Int)) (kt : 0 ≤ x → rAW G X nL r tgt lo st S) (kf : ¬ 0 ≤ x → rAW G X nL r (pc + 3) lo st S) : rAW G X nL r pc lo (.int x :: st) S := fun H locs ls h1 h2 h3 => lv_if_ge C.1 C.2.1 hdg ht (fun q => kt q H locs ls h1 h2 h3) (fun q => kf q H locs ls h1 h2 h3)
theorem ra_if_gt (C : rC G X nL cc ret d) {x : Int32} {off : Int} {tgt : Nat} (hdg : decode cc pc = .ok (.ifCond .gt off, 3)) (ht : (pc : Int) + off = (tgt : Int)) (kt : 0 < x → rAW G X nL r tgt lo st S) (kf : ¬ 0 < x → rAW G X nL r (pc + 3) lo st S) : rAW G X nL r pc lo (.int x :: st) S := fun H locs ls h1 h2 h3 => lv_if_gt C.1 C.2.1 hdg ht (fun q => kt q H locs ls h1 h2 h3) (fun q => kf q H locs ls h1 h2 h3)
theorem ra_if_le (C : rC G X nL cc ret d) {x : Int32} {off : Int} {tgt : Nat} (hdg : decode cc pc = .ok (.ifCond .le off, 3)) (ht : (pc : Int) + off = (tgt : Int)) (kt : x ≤ 0 → rAW G X nL r tgt lo st S) (kf : ¬ x ≤ 0 → rAW G X nL r (pc + 3) lo st S) : rAW G X nL r pc lo (.int x :: st) S := fun H locs ls h1 h2 h3 => lv_if_le C.1 C.2.1 hdg ht (fun q => kt q H locs ls h1 h2 h3) (fun q => kf q H locs ls h1 h2 h3)
theorem ra_icmp_eq (C : rC G X nL cc ret d) {x y : Int32} {off : Int} {tgt : Nat} (hdg : decode cc pc = .ok (.if_icmp .eq off, 3)) (ht : (pc : Int) + off = (tgt : Int)) (kt : x = y → rAW G X nL r tgt lo st S) (kf : ¬ x = y → rAW G X nL r (pc + 3) lo st S) : rAW G X nL r pc lo (.int y :: .int x :: st) S := fun H locs ls h1 h2 h3 => lv_icmp_eq C.1 C.2.1 hdg ht (fun q => kt q H locs ls h1 h2 h3) (fun q => kf q H locs ls h1 h2 h3)
theorem ra_icmp_ne (C : rC G X nL cc ret d) {x y : Int32} {off : Int} {tgt : Nat} (hdg : decode cc pc = .ok (.if_icmp .ne off, 3)) (ht : (pc : Int) + off = (tgt : Int)) (kt : ¬ x = y → rAW G X nL r tgt lo st S) (kf : x = y → rAW G X nL r (pc + 3) lo st S) : rAW G X nL r pc lo (.int y :: .int x :: st) S := fun H locs ls h1 h2 h3 => lv_icmp_ne C.1 C.2.1 hdg ht (fun q => kt q H locs ls h1 h2 h3) (fun q => kf q H locs ls h1 h2 h3)
theorem ra_icmp_lt (C : rC G X nL cc ret d) {x y : Int32} {off : Int} {tgt : Nat} (hdg : decode cc pc = .ok (.if_icmp .lt off, 3)) (ht : (pc : Int) + off = (tgt : Int)) (kt : x < y → rAW G X nL r tgt lo st S) (kf : ¬ x < y → rAW G X nL r (pc + 3) lo st S) : rAW G X nL r pc lo (.int y :: .int x :: st) S := fun H locs ls h1 h2 h3 => lv_icmp_lt C.1 C.2.1 hdg ht (fun q => kt q H locs ls h1 h2 h3) (fun q => kf q H locs ls h1 h2 h3)
theorem ra_icmp_ge (C : rC G X nL cc ret d) {x y : Int32} {off : Int} {tgt : Nat} (hdg : decode cc pc = .ok (.if_icmp .ge off, 3)) (ht : (pc : Int) + off = (tgt : Int)) (kt : y ≤ x → rAW G X nL r tgt lo st S) (kf : ¬ y ≤ x → rAW G X nL r (pc + 3) lo st S) : rAW G X nL r pc lo (.int y :: .int x :: st) S := fun H locs ls h1 h2 h3 => lv_icmp_ge C.1 C.2.1 hdg ht (fun q => kt q H locs ls h1 h2 h3) (fun q => kf q H locs ls h1 h2 h3)
theorem ra_icmp_gt (C : rC G X nL cc ret d) {x y : Int32} {off : Int} {tgt : Nat} (hdg : decode cc pc = .ok (.if_icmp .gt off, 3)) (ht : (pc : Int) + off = (tgt : Int)) (kt : y < x → rAW G X nL r tgt lo st S) (kf : ¬ y < x → rAW G X nL r (pc + 3) lo st S) : rAW G X nL r pc lo (.int y :: .int x :: st) S := fun H locs ls h1 h2 h3 => lv_icmp_gt C.1 C.2.1 hdg ht (fun q => kt q H locs ls h1 h2 h3) (fun q => kf q H locs ls h1 h2 h3)
theorem ra_icmp_le (C : rC G X nL cc ret d) {x y : Int32} {off : Int} {tgt : Nat} (hdg : decode cc pc = .ok (.if_icmp .le off, 3)) (ht : (pc : Int) + off = (tgt : Int)) (kt : x ≤ y → rAW G X nL r tgt lo st S) (kf : ¬ x ≤ y → rAW G X nL r (pc + 3) lo st S) : rAW G X nL r pc lo (.int y :: .int x :: st) S := fun H locs ls h1 h2 h3 => lv_icmp_le C.1 C.2.1 hdg ht (fun q => kt q H locs ls h1 h2 h3) (fun q => kf q H locs ls h1 h2 h3)
theorem ra_goto (C : rC G X nL cc ret d) {off : Int} {tgt : Nat} (hdg : decode cc pc = .ok (.goto off, 3)) (ht : (pc : Int) + off = (tgt : Int)) (k : rAW G X nL r tgt lo st S) : rAW G X nL r pc lo st S := fun H locs ls h1 h2 h3 => lv_goto C.1 C.2.1 hdg ht (k H locs ls h1 h2 h3)
theorem ra_mask (bs : List Bool) (k : rAW G X nL r pc (rMask lo bs) st S) : rAW G X nL r pc lo st S := fun H locs ls h1 h2 h3 => k H locs ls h1 h2 (rLo_mask bs h3)
theorem ra_istore_n (C : rC G X nL cc ret d) {k0 : Fin 4} {i : Nat} {x : Int32} (hdg : decode cc pc = .ok (.istore_n k0, 1)) (hi : (k0 : Nat) = i) (hn : i < nL) (kk : rAW G X nL r (pc + 1) (lo.set i (some (.int x))) st S) : rAW G X nL r pc lo (.int x :: st) S := by
  intro H locs ls h1 h2 h3
  obtain ⟨ls', e', h'⟩ := rLo_store (v := .int x) h3 hn rfl
  have hx := C.1
  have hb := C.2.1
  obtain ⟨p, l, e, R, s, m, args, below, meth, c⟩ := X
  subst hi
  intro T hT Y
  obtain ⟨t, a, b⟩ := kk H locs ls' h1 h2 h' T hT Y
  refine ⟨t, ?_, b⟩
  dsimp only at hx hb a Y ⊢
  jvm_step Y.here [Y.here.top, ↓top_set Y.here.top, hx, hb, hdg, e']
  exact a
theorem ra_istore (C : rC G X nL cc ret d)  {i : Nat} {x : Int32} (hdg : decode cc pc = .ok (.istore i, 2))  (hn : i < nL) (kk : rAW G X nL r (pc + 2) (lo.set i (some (.int x))) st S) : rAW G X nL r pc lo (.int x :: st) S := by
  intro H locs ls h1 h2 h3
  obtain ⟨ls', e', h'⟩ := rLo_store (v := .int x) h3 hn rfl
  have hx := C.1
  have hb := C.2.1
  obtain ⟨p, l, e, R, s, m, args, below, meth, c⟩ := X
  skip
  intro T hT Y
  obtain ⟨t, a, b⟩ := kk H locs ls' h1 h2 h' T hT Y
  refine ⟨t, ?_, b⟩
  dsimp only at hx hb a Y ⊢
  jvm_step Y.here [Y.here.top, ↓top_set Y.here.top, hx, hb, hdg, e']
  exact a
theorem ra_iinc (C : rC G X nL cc ret d) {i : Nat} {n : Int} {x v : Int32} (hdg : decode cc pc = .ok (.iinc i n, 3)) (hl : lo[i]? = some (some (.int x))) (hv : Int32.ofInt n = v) (hn : i < nL) (kk : rAW G X nL r (pc + 3) (lo.set i (some (.int (x + v)))) st S) : rAW G X nL r pc lo st S := by
  intro H locs ls h1 h2 h3
  subst hv
  have hg := rLo_at h3 hl
  obtain ⟨ls', e', h'⟩ := rLo_store (v := .int (x + Int32.ofInt n)) h3 hn rfl
  have hx := C.1
  have hb := C.2.1
  obtain ⟨p, l, e, R, s, m, args, below, meth, c⟩ := X
  intro T hT Y
  obtain ⟨t, a, b⟩ := kk H locs ls' h1 h2 h' T hT Y
  refine ⟨t, ?_, b⟩
  dsimp only at hx hb a Y ⊢
  jvm_step Y.here [Y.here.top, ↓top_set Y.here.top, hx, hb, hdg, hg, e']
  exact a
end RRules
