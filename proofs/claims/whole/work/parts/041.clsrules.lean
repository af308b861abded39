section CRules
variable {t : Bool} {G : cG} {X : rX} {z0 z : cS} {own : String} {nL d a b : Nat} {cc : ByteArray} {ret : Option FieldType} {r : cR} {pc : Nat} {lo : List (Option Value)} {st : List Value} {kc ks : Nat}
theorem ca_iconst (C : cC G X z0 own nL cc ret d a b) {n : Int} {v : Int32} (hdg : decode cc pc = .ok (.iconst n, 1)) (hv : Int32.ofInt n = v) (k : cAW t G X z0 r nL (pc + 1) lo (.int v :: st) z kc ks) : cAW t G X z0 r nL pc lo (st) z kc ks := fun H locs ls h1 hd h2 h3 => lv_iconst C.1 C.2.1 hdg hv (k H locs ls h1 hd h2 h3)
theorem ca_bipush (C : cC G X z0 own nL cc ret d a b) {n : Int} {v : Int32} (hdg : decode cc pc = .ok (.bipush n, 2)) (hv : (Int8.ofInt n).toInt32 = v) (k : cAW t G X z0 r nL (pc + 2) lo (.int v :: st) z kc ks) : cAW t G X z0 r nL pc lo (st) z kc ks := fun H locs ls h1 hd h2 h3 => lv_bipush C.1 C.2.1 hdg hv (k H locs ls h1 hd h2 h3)
theorem ca_sipush (C : cC G X z0 own nL cc ret d a b) {n : Int} {v : Int32} (hdg : decode cc pc = .ok (.sipush n, 3)) (hv : (Int16.ofInt n).toInt32 = v) (k : cAW t G X z0 r nL (pc + 3) lo (.int v :: st) z kc ks) : cAW t G X z0 r nL pc lo (st) z kc ks := fun H locs ls h1 hd h2 h3 => lv_sipush C.1 C.2.1 hdg hv (k H locs ls h1 hd h2 h3)
theorem ca_iload_n (C : cC G X z0 own nL cc ret d a b) {k0 : Fin 4} {i : Nat} {x : Int32} (hdg : decode cc pc = .ok (.iload_n k0, 1)) (hi : (k0 : Nat) = i) (hl : lo[i]? = some (some (.int x))) (k : cAW t G X z0 r nL (pc + 1) lo (.int x :: st) z kc ks) : cAW t G X z0 r nL pc lo (st) z kc ks := fun H locs ls h1 hd h2 h3 => lv_iload_n C.1 C.2.1 hdg hi (rLo_at h3 hl) (k H locs ls h1 hd h2 h3)
theorem ca_iload (C : cC G X z0 own nL cc ret d a b) {i : Nat} {x : Int32} (hdg : decode cc pc = .ok (.iload i, 2)) (hl : lo[i]? = some (some (.int x))) (k : cAW t G X z0 r nL (pc + 2) lo (.int x :: st) z kc ks) : cAW t G X z0 r nL pc lo (st) z kc ks := fun H locs ls h1 hd h2 h3 => lv_iload C.1 C.2.1 hdg (rLo_at h3 hl) (k H locs ls h1 hd h2 h3)
theorem ca_null (C : cC G X z0 own nL cc ret d a b)  (hdg : decode cc pc = .ok (.aconst_null, 1))  (k : cAW t G X z0 r nL (pc + 1) lo (va_rf none :: st) z kc ks) : cAW t G X z0 r nL pc lo (st) z kc ks := fun H locs ls h1 hd h2 h3 => lv_null C.1 C.2.1 hdg  (k H locs ls h1 hd h2 h3)
theorem ca_aload_n (C : cC G X z0 own nL cc ret d a b) {k0 : Fin 4} {i : Nat} {x : Option Nat} (hdg : decode cc pc = .ok (.aload_n k0, 1)) (hi : (k0 : Nat) = i) (hl : lo[i]? = some (some (va_rf x))) (k : cAW t G X z0 r nL (pc + 1) lo (va_rf x :: st) z kc ks) : cAW t G X z0 r nL pc lo st z kc ks := by
  intro H locs ls h1 hd h2 h3
  have hk := k H locs ls h1 hd h2 h3
  cases x with
  | none => exact lv_aload_nN C.1 C.2.1 hdg hi (rLo_at h3 hl) hk
  | some q => exact lv_aload_n C.1 C.2.1 hdg hi (rLo_at h3 hl) hk
theorem ca_aload (C : cC G X z0 own nL cc ret d a b)  {i : Nat} {x : Option Nat} (hdg : decode cc pc = .ok (.aload i, 2))  (hl : lo[i]? = some (some (va_rf x))) (k : cAW t G X z0 r nL (pc + 2) lo (va_rf x :: st) z kc ks) : cAW t G X z0 r nL pc lo st z kc ks := by
  intro H locs ls h1 hd h2 h3
  have hk := k H locs ls h1 hd h2 h3
  cases x with
  | none => exact lv_aloadN C.1 C.2.1 hdg (rLo_at h3 hl) hk
  | some q => exact lv_aload C.1 C.2.1 hdg (rLo_at h3 hl) hk
theorem ca_iadd (C : cC G X z0 own nL cc ret d a b) {x y : Int32} (hdg : decode cc pc = .ok (.iadd, 1))  (k : cAW t G X z0 r nL (pc + 1) lo (.int (x + y) :: st) z kc ks) : cAW t G X z0 r nL pc lo (.int y :: .int x :: st) z kc ks := fun H locs ls h1 hd h2 h3 => lv_iadd C.1 C.2.1 hdg  (k H locs ls h1 hd h2 h3)
theorem ca_isub (C : cC G X z0 own nL cc ret d a b) {x y : Int32} (hdg : decode cc pc = .ok (.isub, 1))  (k : cAW t G X z0 r nL (pc + 1) lo (.int (x - y) :: st) z kc ks) : cAW t G X z0 r nL pc lo (.int y :: .int x :: st) z kc ks := fun H locs ls h1 hd h2 h3 => lv_isub C.1 C.2.1 hdg  (k H locs ls h1 hd h2 h3)
theorem ca_imul (C : cC G X z0 own nL cc ret d a b) {x y : Int32} (hdg : decode cc pc = .ok (.imul, 1))  (k : cAW t G X z0 r nL (pc + 1) lo (.int (x * y) :: st) z kc ks) : cAW t G X z0 r nL pc lo (.int y :: .int x :: st) z kc ks := fun H locs ls h1 hd h2 h3 => lv_imul C.1 C.2.1 hdg  (k H locs ls h1 hd h2 h3)
theorem ca_iand (C : cC G X z0 own nL cc ret d a b) {x y : Int32} (hdg : decode cc pc = .ok (.iand, 1))  (k : cAW t G X z0 r nL (pc + 1) lo (.int (x &&& y) :: st) z kc ks) : cAW t G X z0 r nL pc lo (.int y :: .int x :: st) z kc ks := fun H locs ls h1 hd h2 h3 => lv_iand C.1 C.2.1 hdg  (k H locs ls h1 hd h2 h3)
theorem ca_ior (C : cC G X z0 own nL cc ret d a b) {x y : Int32} (hdg : decode cc pc = .ok (.ior, 1))  (k : cAW t G X z0 r nL (pc + 1) lo (.int (x ||| y) :: st) z kc ks) : cAW t G X z0 r nL pc lo (.int y :: .int x :: st) z kc ks := fun H locs ls h1 hd h2 h3 => lv_ior C.1 C.2.1 hdg  (k H locs ls h1 hd h2 h3)
theorem ca_ixor (C : cC G X z0 own nL cc ret d a b) {x y : Int32} (hdg : decode cc pc = .ok (.ixor, 1))  (k : cAW t G X z0 r nL (pc + 1) lo (.int (x ^^^ y) :: st) z kc ks) : cAW t G X z0 r nL pc lo (.int y :: .int x :: st) z kc ks := fun H locs ls h1 hd h2 h3 => lv_ixor C.1 C.2.1 hdg  (k H locs ls h1 hd h2 h3)
theorem ca_ishl (C : cC G X z0 own nL cc ret d a b) {x y : Int32} (hdg : decode cc pc = .ok (.ishl, 1))  (k : cAW t G X z0 r nL (pc + 1) lo (.int (x <<< (y &&& 31)) :: st) z kc ks) : cAW t G X z0 r nL pc lo (.int y :: .int x :: st) z kc ks := fun H locs ls h1 hd h2 h3 => lv_ishl C.1 C.2.1 hdg  (k H locs ls h1 hd h2 h3)
theorem ca_ishr (C : cC G X z0 own nL cc ret d a b) {x y : Int32} (hdg : decode cc pc = .ok (.ishr, 1))  (k : cAW t G X z0 r nL (pc + 1) lo (.int (x >>> (y &&& 31)) :: st) z kc ks) : cAW t G X z0 r nL pc lo (.int y :: .int x :: st) z kc ks := fun H locs ls h1 hd h2 h3 => lv_ishr C.1 C.2.1 hdg  (k H locs ls h1 hd h2 h3)
theorem ca_dup (C : cC G X z0 own nL cc ret d a b) {v : Value} (hdg : decode cc pc = .ok (.dup, 1)) (hc : v.category = 1) (k : cAW t G X z0 r nL (pc + 1) lo (v :: v :: st) z kc ks) : cAW t G X z0 r nL pc lo (v :: st) z kc ks := fun H locs ls h1 hd h2 h3 => lv_dup C.1 C.2.1 hdg hc (k H locs ls h1 hd h2 h3)
theorem ca_pop (C : cC G X z0 own nL cc ret d a b) {v : Value} (hdg : decode cc pc = .ok (.pop, 1)) (hc : v.category = 1) (k : cAW t G X z0 r nL (pc + 1) lo (st) z kc ks) : cAW t G X z0 r nL pc lo (v :: st) z kc ks := fun H locs ls h1 hd h2 h3 => lv_pop C.1 C.2.1 hdg hc (k H locs ls h1 hd h2 h3)
theorem ca_if_eq (C : cC G X z0 own nL cc ret d a b) {x : Int32} {off : Int} {tgt : Nat} (hdg : decode cc pc = .ok (.ifCond .eq off, 3)) (ht : (pc : Int) + off = (tgt : Int)) (kt : x = 0 → cAW t G X z0 r nL tgt lo st z kc ks) (kf : ¬ x = 0 → cAW t G X z0 r nL (pc + 3) lo st z kc ks) : cAW t G X z0 r nL pc lo (.int x :: st) z kc ks := fun H locs ls h1 hd h2 h3 => lv_if_eq C.1 C.2.1 hdg ht (fun q => kt q H locs ls h1 hd h2 h3) (fun q => kf q H locs ls h1 hd h2 h3)
theorem ca_if_ne (C : cC G X z0 own nL cc ret d a b) {x : Int32} {off : Int} {tgt : Nat} (hdg : decode cc pc = .ok (.ifCond .ne off, 3)) (ht : (pc : Int) + off = (tgt : Int)) (kt : ¬ x = 0 → cAW t G X z0 r nL tgt lo st z kc ks) (kf : x = 0 → cAW t G X z0 r nL (pc + 3) lo st z kc ks) : cAW t G X z0 r nL pc lo (.int x :: st) z kc ks := fun H locs ls h1 hd h2 h3 => lv_if_ne C.1 C.2.1 hdg ht (fun q => kt q H locs ls h1 hd h2 h3) (fun q => kf q H locs ls h1 hd h2 h3)
theorem ca_if_lt (C : cC G X z0 own nL cc ret d a b) {x : Int32} {off : Int} {tgt : Nat} (hdg : decode cc pc = .ok (.ifCond .lt off, 3)) (ht : (pc : Int) + off = (tgt : Int)) (kt : x < 0 → cAW t G X z0 r nL tgt lo st z kc ks) (kf : ¬ x < 0 → cAW t G X z0 r nL (pc + 3) lo st z kc ks) : cAW t G X z0 r nL pc lo (.int x :: st) z kc ks := fun H locs ls h1 hd h2 h3 => lv_if_lt C.1 C.2.1 hdg ht (fun q => kt q H locs ls h1 hd h2 h3) (fun q => kf q H locs ls h1 hd h2 h3)
theorem ca_if_ge (C : cC G X z0 own nL cc ret d a b) {x : Int32} {off : Int} {tgt : Nat} (hdg : decode cc pc = .ok (.ifCond .ge off, 3)) (ht : (pc : Int) + off = (tgt : Int)) (kt : 0 ≤ x → cAW t G X z0 r nL tgt lo st z kc ks) (kf : ¬ 0 ≤ x → cAW t G X z0 r nL (pc + 3) lo st z kc ks) : cAW t G X z0 r nL pc lo (.int x :: st) z kc ks := fun H locs ls h1 hd h2 h3 => lv_if_ge C.1 C.2.1 hdg ht (fun q => kt q H locs ls h1 hd h2 h3) (fun q => kf q H locs ls h1 hd h2 h3)
theorem ca_if_gt (C : cC G X z0 own nL cc ret d a b) {x : Int32} {off : Int} {tgt : Nat} (hdg : decode cc pc = .ok (.ifCond .gt off, 3)) (ht : (pc : Int) + off = (tgt : Int)) (kt : 0 < x → cAW t G X z0 r nL tgt lo st z kc ks) (kf : ¬ 0 < x → cAW t G X z0 r nL (pc + 3) lo st z kc ks) : cAW t G X z0 r nL pc lo (.int x :: st) z kc ks := fun H locs ls h1 hd h2 h3 => lv_if_gt C.1 C.2.1 hdg ht (fun q => kt q H locs ls h1 hd h2 h3) (fun q => kf q H locs ls h1 hd h2 h3)
theorem ca_if_le (C : cC G X z0 own nL cc ret d a b) {x : Int32} {off : Int} {tgt : Nat} (hdg : decode cc pc = .ok (.ifCond .le off, 3)) (ht : (pc : Int) + off = (tgt : Int)) (kt : x ≤ 0 → cAW t G X z0 r nL tgt lo st z kc ks) (kf : ¬ x ≤ 0 → cAW t G X z0 r nL (pc + 3) lo st z kc ks) : cAW t G X z0 r nL pc lo (.int x :: st) z kc ks := fun H locs ls h1 hd h2 h3 => lv_if_le C.1 C.2.1 hdg ht (fun q => kt q H locs ls h1 hd h2 h3) (fun q => kf q H locs ls h1 hd h2 h3)
theorem ca_icmp_eq (C : cC G X z0 own nL cc ret d a b) {x y : Int32} {off : Int} {tgt : Nat} (hdg : decode cc pc = .ok (.if_icmp .eq off, 3)) (ht : (pc : Int) + off = (tgt : Int)) (kt : x = y → cAW t G X z0 r nL tgt lo st z kc ks) (kf : ¬ x = y → cAW t G X z0 r nL (pc + 3) lo st z kc ks) : cAW t G X z0 r nL pc lo (.int y :: .int x :: st) z kc ks := fun H locs ls h1 hd h2 h3 => lv_icmp_eq C.1 C.2.1 hdg ht (fun q => kt q H locs ls h1 hd h2 h3) (fun q => kf q H locs ls h1 hd h2 h3)
theorem ca_icmp_ne (C : cC G X z0 own nL cc ret d a b) {x y : Int32} {off : Int} {tgt : Nat} (hdg : decode cc pc = .ok (.if_icmp .ne off, 3)) (ht : (pc : Int) + off = (tgt : Int)) (kt : ¬ x = y → cAW t G X z0 r nL tgt lo st z kc ks) (kf : x = y → cAW t G X z0 r nL (pc + 3) lo st z kc ks) : cAW t G X z0 r nL pc lo (.int y :: .int x :: st) z kc ks := fun H locs ls h1 hd h2 h3 => lv_icmp_ne C.1 C.2.1 hdg ht (fun q => kt q H locs ls h1 hd h2 h3) (fun q => kf q H locs ls h1 hd h2 h3)
theorem ca_icmp_lt (C : cC G X z0 own nL cc ret d a b) {x y : Int32} {off : Int} {tgt : Nat} (hdg : decode cc pc = .ok (.if_icmp .lt off, 3)) (ht : (pc : Int) + off = (tgt : Int)) (kt : x < y → cAW t G X z0 r nL tgt lo st z kc ks) (kf : ¬ x < y → cAW t G X z0 r nL (pc + 3) lo st z kc ks) : cAW t G X z0 r nL pc lo (.int y :: .int x :: st) z kc ks := fun H locs ls h1 hd h2 h3 => lv_icmp_lt C.1 C.2.1 hdg ht (fun q => kt q H locs ls h1 hd h2 h3) (fun q => kf q H locs ls h1 hd h2 h3)
theorem ca_icmp_ge (C : cC G X z0 own nL cc ret d a b) {x y : Int32} {off : Int} {tgt : Nat} (hdg : decode cc pc = .ok (.if_icmp .ge off, 3)) (ht : (pc : Int) + off = (tgt : Int)) (kt : y ≤ x → cAW t G X z0 r nL tgt lo st z kc ks) (kf : ¬ y ≤ x → cAW t G X z0 r nL (pc + 3) lo st z kc ks) : cAW t G X z0 r nL pc lo (.int y :: .int x :: st) z kc ks := fun H locs ls h1 hd h2 h3 => lv_icmp_ge C.1 C.2.1 hdg ht (fun q => kt q H locs ls h1 hd h2 h3) (fun q => kf q H locs ls h1 hd h2 h3)
theorem ca_icmp_gt (C : cC G X z0 own nL cc ret d a b) {x y : Int32} {off : Int} {tgt : Nat} (hdg : decode cc pc = .ok (.if_icmp .gt off, 3)) (ht : (pc : Int) + off = (tgt : Int)) (kt : y < x → cAW t G X z0 r nL tgt lo st z kc ks) (kf : ¬ y < x → cAW t G X z0 r nL (pc + 3) lo st z kc ks) : cAW t G X z0 r nL pc lo (.int y :: .int x :: st) z kc ks := fun H locs ls h1 hd h2 h3 => lv_icmp_gt C.1 C.2.1 hdg ht (fun q => kt q H locs ls h1 hd h2 h3) (fun q => kf q H locs ls h1 hd h2 h3)
theorem ca_icmp_le (C : cC G X z0 own nL cc ret d a b) {x y : Int32} {off : Int} {tgt : Nat} (hdg : decode cc pc = .ok (.if_icmp .le off, 3)) (ht : (pc : Int) + off = (tgt : Int)) (kt : x ≤ y → cAW t G X z0 r nL tgt lo st z kc ks) (kf : ¬ x ≤ y → cAW t G X z0 r nL (pc + 3) lo st z kc ks) : cAW t G X z0 r nL pc lo (.int y :: .int x :: st) z kc ks := fun H locs ls h1 hd h2 h3 => lv_icmp_le C.1 C.2.1 hdg ht (fun q => kt q H locs ls h1 hd h2 h3) (fun q => kf q H locs ls h1 hd h2 h3)
theorem ca_ifnull (C : cC G X z0 own nL cc ret d a b) {x : Option Nat} {off : Int} {tgt : Nat} (hdg : decode cc pc = .ok (.ifnull off, 3)) (ht : (pc : Int) + off = (tgt : Int)) (kt : x = none → cAW t G X z0 r nL tgt lo st z kc ks) (kf : ¬ x = none → cAW t G X z0 r nL (pc + 3) lo st z kc ks) : cAW t G X z0 r nL pc lo (va_rf x :: st) z kc ks := by
  intro H locs ls h1 hd h2 h3
  cases x with
  | none => exact lv_ifnullN C.1 C.2.1 hdg ht (kt rfl H locs ls h1 hd h2 h3)
  | some q => exact lv_ifnull C.1 C.2.1 hdg (kf (fun h => by cases h) H locs ls h1 hd h2 h3)
theorem ca_ifnonnull (C : cC G X z0 own nL cc ret d a b) {x : Option Nat} {off : Int} {tgt : Nat} (hdg : decode cc pc = .ok (.ifnonnull off, 3)) (ht : (pc : Int) + off = (tgt : Int)) (kt : ¬ x = none → cAW t G X z0 r nL tgt lo st z kc ks) (kf : x = none → cAW t G X z0 r nL (pc + 3) lo st z kc ks) : cAW t G X z0 r nL pc lo (va_rf x :: st) z kc ks := by
  intro H locs ls h1 hd h2 h3
  cases x with
  | none => exact lv_ifnonnullN C.1 C.2.1 hdg (kf rfl H locs ls h1 hd h2 h3)
  | some q => exact lv_ifnonnull C.1 C.2.1 hdg ht (kt (fun h => by cases h) H locs ls h1 hd h2 h3)
theorem ca_goto (C : cC G X z0 own nL cc ret d a b) {off : Int} {tgt : Nat} (hdg : decode cc pc = .ok (.goto off, 3)) (ht : (pc : Int) + off = (tgt : Int)) (k : cAW t G X z0 r nL tgt lo st z kc ks) : cAW t G X z0 r nL pc lo st z kc ks := fun H locs ls h1 hd h2 h3 => lv_goto C.1 C.2.1 hdg ht (k H locs ls h1 hd h2 h3)
theorem ca_mask (bs : List Bool) (k : cAW t G X z0 r nL pc (rMask lo bs) st z kc ks) : cAW t G X z0 r nL pc lo st z kc ks := fun H locs ls h1 hd h2 h3 => k H locs ls h1 hd h2 (rLo_mask bs h3)
theorem ca_istore_n (C : cC G X z0 own nL cc ret d a b) {k0 : Fin 4} {i : Nat} {x : Int32} (hdg : decode cc pc = .ok (.istore_n k0, 1)) (hi : (k0 : Nat) = i) (hn : i < nL) (kk : cAW t G X z0 r nL (pc + 1) (lo.set i (some (.int x))) st z kc ks) : cAW t G X z0 r nL pc lo (.int x :: st) z kc ks := by
  intro H locs ls h1 hd h2 h3
  obtain ⟨ls', e', h'⟩ := rLo_store (v := .int x) h3 hn rfl
  have hx := C.1
  have hb := C.2.1
  obtain ⟨p, l, e, R, s, m, args, below, meth, c⟩ := X
  subst hi
  intro T hT Y
  obtain ⟨t', a', b'⟩ := kk H locs ls' h1 hd h2 h' T hT Y
  refine ⟨t', ?_, b'⟩
  dsimp only at hx hb a' Y ⊢
  jvm_step Y.here [Y.here.top, ↓top_set Y.here.top, hx, hb, hdg, e']
  exact a'
theorem ca_istore (C : cC G X z0 own nL cc ret d a b)  {i : Nat} {x : Int32} (hdg : decode cc pc = .ok (.istore i, 2))  (hn : i < nL) (kk : cAW t G X z0 r nL (pc + 2) (lo.set i (some (.int x))) st z kc ks) : cAW t G X z0 r nL pc lo (.int x :: st) z kc ks := by
  intro H locs ls h1 hd h2 h3
  obtain ⟨ls', e', h'⟩ := rLo_store (v := .int x) h3 hn rfl
  have hx := C.1
  have hb := C.2.1
  obtain ⟨p, l, e, R, s, m, args, below, meth, c⟩ := X
  skip
  intro T hT Y
  obtain ⟨t', a', b'⟩ := kk H locs ls' h1 hd h2 h' T hT Y
  refine ⟨t', ?_, b'⟩
  dsimp only at hx hb a' Y ⊢
  jvm_step Y.here [Y.here.top, ↓top_set Y.here.top, hx, hb, hdg, e']
  exact a'
theorem ca_astore_n (C : cC G X z0 own nL cc ret d a b) {k0 : Fin 4} {i : Nat} {x : Option Nat} (hdg : decode cc pc = .ok (.astore_n k0, 1)) (hi : (k0 : Nat) = i) (hn : i < nL) (kk : cAW t G X z0 r nL (pc + 1) (lo.set i (some (va_rf x))) st z kc ks) : cAW t G X z0 r nL pc lo (va_rf x :: st) z kc ks := by
  intro H locs ls h1 hd h2 h3
  obtain ⟨ls', e', h'⟩ := rLo_store (v := va_rf x) h3 hn (by cases x <;> rfl)
  have hx := C.1
  have hb := C.2.1
  obtain ⟨p, l, e, R, s, m, args, below, meth, c⟩ := X
  subst hi
  intro T hT Y
  obtain ⟨t', a', b'⟩ := kk H locs ls' h1 hd h2 h' T hT Y
  refine ⟨t', ?_, b'⟩
  dsimp only at hx hb a' Y ⊢
  cases x with
  | none =>
    have e2 : storeLocals ls _ Value.null = some ls' := e'
    show Steps _ _ _ (T.setTop (F0 m pc ls (Value.null :: st))) _
    jvm_step Y.here [Y.here.top, ↓top_set Y.here.top, hx, hb, hdg, e2, Value.isRef]
    exact a'
  | some q =>
    have e2 : storeLocals ls _ (Value.ref q) = some ls' := e'
    show Steps _ _ _ (T.setTop (F0 m pc ls (Value.ref q :: st))) _
    jvm_step Y.here [Y.here.top, ↓top_set Y.here.top, hx, hb, hdg, e2, Value.isRef]
    exact a'
theorem ca_astore (C : cC G X z0 own nL cc ret d a b)  {i : Nat} {x : Option Nat} (hdg : decode cc pc = .ok (.astore i, 2))  (hn : i < nL) (kk : cAW t G X z0 r nL (pc + 2) (lo.set i (some (va_rf x))) st z kc ks) : cAW t G X z0 r nL pc lo (va_rf x :: st) z kc ks := by
  intro H locs ls h1 hd h2 h3
  obtain ⟨ls', e', h'⟩ := rLo_store (v := va_rf x) h3 hn (by cases x <;> rfl)
  have hx := C.1
  have hb := C.2.1
  obtain ⟨p, l, e, R, s, m, args, below, meth, c⟩ := X
  skip
  intro T hT Y
  obtain ⟨t', a', b'⟩ := kk H locs ls' h1 hd h2 h' T hT Y
  refine ⟨t', ?_, b'⟩
  dsimp only at hx hb a' Y ⊢
  cases x with
  | none =>
    have e2 : storeLocals ls _ Value.null = some ls' := e'
    show Steps _ _ _ (T.setTop (F0 m pc ls (Value.null :: st))) _
    jvm_step Y.here [Y.here.top, ↓top_set Y.here.top, hx, hb, hdg, e2, Value.isRef]
    exact a'
  | some q =>
    have e2 : storeLocals ls _ (Value.ref q) = some ls' := e'
    show Steps _ _ _ (T.setTop (F0 m pc ls (Value.ref q :: st))) _
    jvm_step Y.here [Y.here.top, ↓top_set Y.here.top, hx, hb, hdg, e2, Value.isRef]
    exact a'
theorem ca_iinc (C : cC G X z0 own nL cc ret d a b) {i : Nat} {n : Int} {x v : Int32} (hdg : decode cc pc = .ok (.iinc i n, 3)) (hl : lo[i]? = some (some (.int x))) (hv : Int32.ofInt n = v) (hn : i < nL) (kk : cAW t G X z0 r nL (pc + 3) (lo.set i (some (.int (x + v)))) st z kc ks) : cAW t G X z0 r nL pc lo st z kc ks := by
  intro H locs ls h1 hd h2 h3
  subst hv
  have hg := rLo_at h3 hl
  obtain ⟨ls', e', h'⟩ := rLo_store (v := .int (x + Int32.ofInt n)) h3 hn rfl
  have hx := C.1
  have hb := C.2.1
  obtain ⟨p, l, e, R, s, m, args, below, meth, c⟩ := X
  intro T hT Y
  obtain ⟨t', a', b'⟩ := kk H locs ls' h1 hd h2 h' T hT Y
  refine ⟨t', ?_, b'⟩
  dsimp only at hx hb a' Y ⊢
  jvm_step Y.here [Y.here.top, ↓top_set Y.here.top, hx, hb, hdg, hg, e']
  exact a'
end CRules
