-- one step; a method; all methods, by the depth of their calls
section MMR
variable {p : Program} {l : Launch} {e : Env} {R : Room} {s : State} {m : MethodId} {args : Array Value} {below : List Frame} {meth : Method} {c : Code} {Q : State → Prop}
variable {mid : Nat} {D : va_G} {cy : Nat → ClassId} {ad : Nat → Nat} {A : Nat → Prop} {call : MCl} {pc pc' n a b cw d : Nat} {z : Int} {lo lo' : MLo} {st st' : List MV} {h0 h1 : MH} {i : Instr}
theorem mm_step (hmid : mid < mm_NM) (hR : R = mm_rm (d + 1)) (hco : mm_CO l call d D cy ad A) (C : mm_fix p s m args meth c mid D cy ad A) (hdg : decode (mm_by mid) pc = .ok (i, n)) (hwk : mm_wk i n = true) (hc : mm_chi (mm_cn (mm_tc mid)) i pc mid a b cw z = true) (h : mm_ac call pc lo st h0 i n a b z = some (pc', lo', st', h1))
    (k : mm_K p l e R s m args below meth c Q D cy ad A (mm_ml mid) pc' lo' st' h1) : mm_K p l e R s m args below meth c Q D cy ad A (mm_ml mid) pc lo st h0 := by
  cases i
  case iconst => obtain rfl := Nat.eq_of_beq_eq_true hwk; exact mm_s_iconst C hdg hc h k
  case bipush => obtain rfl := Nat.eq_of_beq_eq_true hwk; exact mm_s_bipush C hdg hc h k
  case sipush => obtain rfl := Nat.eq_of_beq_eq_true hwk; exact mm_s_sipush C hdg hc h k
  case lconst => obtain rfl := Nat.eq_of_beq_eq_true hwk; exact mm_s_lconst C hdg hc h k
  case ldc => obtain rfl := Nat.eq_of_beq_eq_true hwk; exact mm_s_ldc C hdg hc h k
  case ldc_w => obtain rfl := Nat.eq_of_beq_eq_true hwk; exact mm_s_ldc_w C hdg hc h k
  case ldc2_w => obtain rfl := Nat.eq_of_beq_eq_true hwk; exact mm_s_ldc2_w C hdg hc h k
  case iload_n => obtain rfl := Nat.eq_of_beq_eq_true hwk; exact mm_s_iload_n C hdg hc h k
  case iload => obtain rfl := Nat.eq_of_beq_eq_true hwk; exact mm_s_iload C hdg hc h k
  case aload_n => obtain rfl := Nat.eq_of_beq_eq_true hwk; exact mm_s_aload_n C hdg hc h k
  case aload => obtain rfl := Nat.eq_of_beq_eq_true hwk; exact mm_s_aload C hdg hc h k
  case lload_n => obtain rfl := Nat.eq_of_beq_eq_true hwk; exact mm_s_lload_n C hdg hc h k
  case lload => obtain rfl := Nat.eq_of_beq_eq_true hwk; exact mm_s_lload C hdg hc h k
  case istore_n => obtain rfl := Nat.eq_of_beq_eq_true hwk; exact mm_s_istore_n C hdg hc h k
  case istore => obtain rfl := Nat.eq_of_beq_eq_true hwk; exact mm_s_istore C hdg hc h k
  case astore_n => obtain rfl := Nat.eq_of_beq_eq_true hwk; exact mm_s_astore_n C hdg hc h k
  case lstore_n => obtain rfl := Nat.eq_of_beq_eq_true hwk; exact mm_s_lstore_n C hdg hc h k
  case lstore => obtain rfl := Nat.eq_of_beq_eq_true hwk; exact mm_s_lstore C hdg hc h k
  case iinc => obtain rfl := Nat.eq_of_beq_eq_true hwk; exact mm_s_iinc C hdg hc h k
  case iadd => obtain rfl := Nat.eq_of_beq_eq_true hwk; exact mm_s_iadd C hdg hc h k
  case isub => obtain rfl := Nat.eq_of_beq_eq_true hwk; exact mm_s_isub C hdg hc h k
  case imul => obtain rfl := Nat.eq_of_beq_eq_true hwk; exact mm_s_imul C hdg hc h k
  case iand => obtain rfl := Nat.eq_of_beq_eq_true hwk; exact mm_s_iand C hdg hc h k
  case ior => obtain rfl := Nat.eq_of_beq_eq_true hwk; exact mm_s_ior C hdg hc h k
  case ixor => obtain rfl := Nat.eq_of_beq_eq_true hwk; exact mm_s_ixor C hdg hc h k
  case ishl => obtain rfl := Nat.eq_of_beq_eq_true hwk; exact mm_s_ishl C hdg hc h k
  case ishr => obtain rfl := Nat.eq_of_beq_eq_true hwk; exact mm_s_ishr C hdg hc h k
  case iushr => obtain rfl := Nat.eq_of_beq_eq_true hwk; exact mm_s_iushr C hdg hc h k
  case idiv => obtain rfl := Nat.eq_of_beq_eq_true hwk; exact mm_s_idiv C hdg hc h k
  case irem => obtain rfl := Nat.eq_of_beq_eq_true hwk; exact mm_s_irem C hdg hc h k
  case ineg => obtain rfl := Nat.eq_of_beq_eq_true hwk; exact mm_s_ineg C hdg hc h k
  case i2l => obtain rfl := Nat.eq_of_beq_eq_true hwk; exact mm_s_i2l C hdg hc h k
  case lsub => obtain rfl := Nat.eq_of_beq_eq_true hwk; exact mm_s_lsub C hdg hc h k
  case lmul => obtain rfl := Nat.eq_of_beq_eq_true hwk; exact mm_s_lmul C hdg hc h k
  case ldiv => obtain rfl := Nat.eq_of_beq_eq_true hwk; exact mm_s_ldiv C hdg hc h k
  case lrem => obtain rfl := Nat.eq_of_beq_eq_true hwk; exact mm_s_lrem C hdg hc h k
  case lcmp => obtain rfl := Nat.eq_of_beq_eq_true hwk; exact mm_s_lcmp C hdg hc h k
  case goto => obtain rfl := Nat.eq_of_beq_eq_true hwk; exact mm_s_goto C hdg hc h k
  case dup => obtain rfl := Nat.eq_of_beq_eq_true hwk; exact mm_s_dup C hdg hc h k
  case dup2 => obtain rfl := Nat.eq_of_beq_eq_true hwk; exact mm_s_dup2 C hdg hc h k
  case pop => obtain rfl := Nat.eq_of_beq_eq_true hwk; exact mm_s_pop C hdg hc h k
  case getfield => obtain rfl := Nat.eq_of_beq_eq_true hwk; exact mm_s_getfield C hdg hc h k
  case putfield => obtain rfl := Nat.eq_of_beq_eq_true hwk; exact mm_s_putfield C hdg hc h k
  case getstatic => obtain rfl := Nat.eq_of_beq_eq_true hwk; exact mm_s_getstatic C hdg hc h k
  case iaload => obtain rfl := Nat.eq_of_beq_eq_true hwk; exact mm_s_iaload C hdg h k
  case iastore => obtain rfl := Nat.eq_of_beq_eq_true hwk; exact mm_s_iastore C hdg h k
  case aaload => obtain rfl := Nat.eq_of_beq_eq_true hwk; exact mm_s_aaload C hdg h k
  case arraylength => obtain rfl := Nat.eq_of_beq_eq_true hwk; exact mm_s_arraylength C hdg h k
  case ifCond cnd off => obtain rfl := Nat.eq_of_beq_eq_true hwk; cases cnd <;> first | exact mm_s_if_eq C hdg hc h k | exact mm_s_if_ne C hdg hc h k | exact mm_s_if_lt C hdg hc h k | exact mm_s_if_ge C hdg hc h k | exact mm_s_if_gt C hdg hc h k | exact mm_s_if_le C hdg hc h k
  case if_icmp cnd off => obtain rfl := Nat.eq_of_beq_eq_true hwk; cases cnd <;> first | exact mm_s_icmp_eq C hdg hc h k | exact mm_s_icmp_ne C hdg hc h k | exact mm_s_icmp_lt C hdg hc h k | exact mm_s_icmp_ge C hdg hc h k | exact mm_s_icmp_gt C hdg hc h k | exact mm_s_icmp_le C hdg hc h k
  case tableswitch df q1 q2 offs => exact mm_s_tableswitch C hdg hc h k
  case lookupswitch df ps => exact mm_s_lookupswitch C hdg hc h k
  case invokevirtual ix => obtain rfl := Nat.eq_of_beq_eq_true hwk; exact mm_s_virtual hmid hR hco C hdg hc h k
  case invokestatic ix => obtain rfl := Nat.eq_of_beq_eq_true hwk; exact mm_s_static hmid hR hco C hdg hc h k
  case invokespecial ix => obtain rfl := Nat.eq_of_beq_eq_true hwk; exact mm_s_special hmid hR hco C hdg hc h k
  all_goals exact absurd h (by intro w; cases w)
theorem mm_ret {r : Option MV} (C : mm_fix p s m args meth c mid D cy ad A) (hdg : decode (mm_by mid) pc = .ok (i, n)) (hwk : mm_wk i n = true) (hc : mm_chi (mm_cn (mm_tc mid)) i pc mid a b cw z = true) (h : mm_rtn i a st h0 = some (r, h1)) : mm_K p l e R s m args below meth c (MQ below (mm_Q D cy ad A r h1) args s 0 0 A) D cy ad A (mm_ml mid) pc lo st h0 := by
  obtain ⟨hx, hb, hr, hml, hown, hts, hlocks, hK, hZT⟩ := C
  intro H locs fls hd hl
  have hW : ∀ t : State, t.heap = H → s.WarmedH t.vm → mm_Wd D cy ad A h0 t t.heap := fun t ht hw => ⟨by rw [ht]; exact hd.1, va_K.moved hw.alike hK, hd.2.1, by
    rw [ht]
    exact mm_Stm hw.alike (mm_Stk hZT hd.2.2.2.1), mm_Nm hw (mm_nst hts)⟩
  unfold mm_rtn at h
  split at h
  · obtain rfl : n = 1 := Nat.eq_of_beq_eq_true hwk
    split at h
    · rename_i x
      by_cases ha : a = 1
      · subst ha
        obtain ⟨h2, h⟩ := mm_bif h
        cases h
        have hn : x &&& 1 = x := of_decide_eq_true h2
        have hrt : mm_rt mid = some .boolean := of_decide_eq_true hc
        exact W.zret (v := x) (ty := .boolean) hx hb (hr.trans hrt) (by show Value.int (x &&& 1) = _; rw [hn]) (fun t ht hw => ⟨⟨rfl, hW t ht hw⟩, hd.2.2.F ht⟩) hd.2.2.2.2 hdg hlocks
      · have e1 : Nat.beq a 1 = false := mm_bne ha
        unfold mm_chi at hc
        dsimp only at hc
        rw [e1] at h hc
        cases h
        have hrt : mm_rt mid = some .int := of_decide_eq_true hc
        exact W.iret (v := x) hx hb (hr.trans hrt) (fun t ht hw => ⟨⟨rfl, hW t ht hw⟩, hd.2.2.F ht⟩) hd.2.2.2.2 hdg hlocks
    · cases h
  · obtain rfl : n = 1 := Nat.eq_of_beq_eq_true hwk
    split at h
    · rename_i x
      cases h
      have hrt : mm_rt mid = some .long := of_decide_eq_true hc
      exact W.lret (v := x) hx hb (hr.trans hrt) (fun t ht hw => ⟨⟨rfl, hW t ht hw⟩, hd.2.2.F ht⟩) hd.2.2.2.2 hdg hlocks
    · cases h
  · obtain rfl : n = 1 := Nat.eq_of_beq_eq_true hwk
    split at h
    · cases h
      have hrt : mm_rt mid = none := of_decide_eq_true hc
      exact W.vret hx hb (hr.trans hrt) (fun t ht hw => ⟨⟨rfl, hW t ht hw⟩, hd.2.2.F ht⟩) hd.2.2.2.2 hdg hlocks
    · cases h
  · cases h
theorem mm_sim {r : Option MV} {h' : MH} (hR : R = mm_rm (d + 1)) (hco : mm_CO l call d D cy ad A) (C : mm_fix p s m args meth c mid D cy ad A) : ∀ (k pc : Nat) (lo : MLo) (st : List MV) (h0 : MH), mm_ex call mid k pc lo st h0 = some (r, h') → mm_K p l e R s m args below meth c (MQ below (mm_Q D cy ad A r h') args s 0 0 A) D cy ad A (mm_ml mid) pc lo st h0
  | 0, pc, lo, st, h0, h => by cases h
  | k + 1, pc, lo, st, h0, h => by
    unfold mm_ex at h
    cases hcd : mm_code mid pc with
    | none => rw [hcd] at h; cases h
    | some q =>
      obtain ⟨i, w, a, b, cw, z⟩ := q
      rw [hcd] at h
      dsimp only at h
      obtain ⟨hmid, hche⟩ := mm_codeI hcd
      unfold mm_che at hche
      dsimp only at hche
      rw [Bool.and_eq_true, Bool.and_eq_true] at hche
      obtain ⟨⟨hdg, hwk⟩, hc⟩ := hche
      have hdg := of_decide_eq_true hdg
      cases hrt : mm_rtn i a st h0 with
      | some x =>
        rw [hrt] at h
        cases h
        exact mm_ret C hdg hwk hc hrt
      | none =>
        rw [hrt] at h
        dsimp only at h
        cases hac : mm_ac call pc lo st h0 i w a b z with
        | none => rw [hac] at h; cases h
        | some y =>
          obtain ⟨pc', lo', st', h1⟩ := y
          rw [hac] at h
          exact mm_step hmid hR hco C hdg hwk hc hac (mm_sim hR hco C k pc' lo' st' h1 h)
end MMR
theorem mm_mkh {args : Array Value} {s : State} (h : ∀ w ∈ lw_g, w.before args s = true) (hN : mm_Nst s) : mm_hts args s := by
  intro w hw hg
  cases hgw : goodWord w with
  | true => exact h w (List.mem_filter.mpr ⟨hw, hgw⟩)
  | false =>
    rw [hgw, Bool.false_or] at hg
    have h1 := hN w hw hg
    cases w
    case fieldLinkNest => exact va_Nw.use rfl h1
    case methodLinkNest => exact va_Nw.use rfl h1
    all_goals (cases hg)
/-- THE MINI MACHINE IS THE MACHINE: what it answers, the method answers, from every state that holds the world -/
theorem mm_met (l : Launch) (D : va_G) (cy : Nat → ClassId) (ad : Nat → Nat) (A : Nat → Prop) : ∀ (d n mid : Nat) (as : List MV) (h : MH) (r : Option MV) (h' : MH), mm_run d n mid as h = some (r, h') → Met l (mm_ty mid) (mm_wd mid) (mm_rm d) (mm_Pc D cy ad A as h) (mm_Q D cy ad A r h') 0 0 A
  | 0, n, mid, as, h, r, h', hh => by cases hh
  | d + 1, n, mid, as, h, r, h', hh => by
    unfold mm_run at hh
    obtain ⟨g1, hh⟩ := mm_bin hh
    obtain ⟨g2, hh⟩ := mm_bif hh
    have hmid : mid < mm_NM := Nat.not_le.mp (fun w => by rw [show Nat.ble mm_NM mid = true from Nat.ble_eq_true_of_le w] at g1; cases g1)
    have hlen := Nat.le_of_ble_eq_true g2
    obtain ⟨m1, m2, m3, m4, m5, m6, m7, -⟩ := mm_chmI (mm_ckA mid hmid)
    refine Met.ofW (cc := mm_by mid) (maxL := mm_ml mid) (ret := mm_rt mid) m2 rfl ?_
    intro p e s m args below meth c s₁ B hml hv
    obtain ⟨rfl, hP, hK, hD, hZT, hNst⟩ := hv
    have hts := atoms_spec (ws := mm_wd mid) B.pre
    have hown : s.vm.findClass (mm_cn (mm_tc mid)) = some m.cls := by rw [← m3]; exact findClass_of_methodNamed B.named
    have C : mm_fix p s m (as.map (mm_v ad)).toArray meth c mid D cy ad A := ⟨B.exec, B.bytes, B.returns, hml, hown, mm_mkh (fun w hw => hts w (List.mem_cons_of_mem _ hw)) hNst, B.notSynchronized, hK, hZT⟩
    have hl := lv_entry (as.map (mm_v ad)) (n := mm_ml mid) (by rw [mm_lgI]; exact hlen)
    rw [lg_entry_eq]
    generalize (lg_sl (as.map (mm_v ad)) ++ List.replicate (mm_ml mid - (lg_sl (as.map (mm_v ad))).length) Slot.unset).toArray = ls at hl ⊢
    exact mm_sim (d := d) rfl (fun tg as2 h2 r2 h2' q => mm_met l D cy ad A d n tg as2 h2 r2 h2' q) C n 0 _ [] h hh s.heap [] ls ⟨hP, hD, va_S.rf⟩ ⟨hl.1, hl.2.1, fun j v hj => hl.2.2 _ (mm_argI ad as 0 j v hj)⟩
