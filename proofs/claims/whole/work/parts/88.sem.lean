-- the law's cases: what one step of the script does on both sides
def lw_kd (lg : Bool) (r : MV) : Prop := if lg = true then ∃ v, r = .inr (.inr v) else ∃ v, r = .inl v
def lw_Sm (lg : Bool) (m1 m2 : Nat) (as : List Int32) : Prop := ∀ (S : SS) (h : MH), InvS S → RC S h → RM S h → ∃ (r : MV) (h1 h2 : MH) (S' : SS) (d1 d2 : Nat), d1 ≤ 30 ∧ d2 ≤ 30 ∧ Ex d1 m1 (.inr (.inl (some 0)) :: as.map .inl) h (some r, h1) ∧ Ex d2 m2 (.inr (.inl (some 55)) :: as.map .inl) h1 (some r, h2) ∧ InvS S' ∧ RC S' h2 ∧ RM S' h2 ∧ lw_kd lg r
theorem sm_i {α : Type} {F G : MH → Option (α × MH)} {w : α → MV} {d1 d2 m1 m2 : Nat} {as : List Int32} {lg : Bool} (hw : ∀ v, lw_kd lg (w v)) (hd1 : d1 ≤ 30) (hd2 : d2 ≤ 30) (st : ∀ S, InvS S → Step S F G) (a1 : ∀ (h h' : MH) (v : α), F h = some (v, h') → Ex d1 m1 (.inr (.inl (some 0)) :: as.map .inl) h (some (w v), h')) (a2 : ∀ (h h' : MH) (v : α), G h = some (v, h') → Ex d2 m2 (.inr (.inl (some 55)) :: as.map .inl) h (some (w v), h')) : lw_Sm lg m1 m2 as := by
  intro S h J c m
  obtain ⟨v, h1, h2, S', e1, e2, q1, q2, q3⟩ := Step_run (st S J) c m
  exact ⟨w v, h1, h2, S', d1, d2, hd1, hd2, a1 _ _ _ e1, a2 _ _ _ e2, q3, q1, q2, hw v⟩
theorem sm_feed (x1 : Int32) : lw_Sm false 61 181 [x1] := by
  obtain ⟨y1, l1, g1, rfl⟩ := ofi_I x1
  exact sm_i (w := .inl) (fun v => ⟨v, rfl⟩) (by omega) (by omega) (fun S J => s_feed J ⟨l1, g1⟩) (fun _ _ _ q => A_C_feed q) (fun _ _ _ q => A_M_feed q)
theorem sm_house : lw_Sm false 62 191 [] := by
  exact sm_i (w := .inl) (fun v => ⟨v, rfl⟩) (by omega) (by omega) (fun S J => s_house J) (fun _ _ _ q => A_C_house q) (fun _ _ _ q => A_M_house q)
theorem sm_bedOf (x1 x2 : Int32) : lw_Sm false 63 198 [x1, x2] := by
  obtain ⟨y1, l1, g1, rfl⟩ := ofi_I x1
  obtain ⟨y2, l2, g2, rfl⟩ := ofi_I x2
  exact sm_i (w := .inl) (fun v => ⟨v, rfl⟩) (by omega) (by omega) (fun S J => Q2_step J (q_bedOf J ⟨l1, g1⟩ ⟨l2, g2⟩)) (fun _ _ _ q => A_C_bedOf q) (fun _ _ _ q => A_M_bedOf q)
theorem sm_personOf (x1 x2 : Int32) : lw_Sm false 64 199 [x1, x2] := by
  obtain ⟨y1, l1, g1, rfl⟩ := ofi_I x1
  obtain ⟨y2, l2, g2, rfl⟩ := ofi_I x2
  exact sm_i (w := .inl) (fun v => ⟨v, rfl⟩) (by omega) (by omega) (fun S J => Q2_step J (q_personOf J ⟨l1, g1⟩ ⟨l2, g2⟩)) (fun _ _ _ q => A_C_personOf q) (fun _ _ _ q => A_M_personOf q)
theorem sm_wayOf (x1 x2 : Int32) : lw_Sm false 65 200 [x1, x2] := by
  obtain ⟨y1, l1, g1, rfl⟩ := ofi_I x1
  obtain ⟨y2, l2, g2, rfl⟩ := ofi_I x2
  exact sm_i (w := .inl) (fun v => ⟨v, rfl⟩) (by omega) (by omega) (fun S J => Q2_step J (q_wayOf J ⟨l1, g1⟩ ⟨l2, g2⟩)) (fun _ _ _ q => A_C_wayOf q) (fun _ _ _ q => A_M_wayOf q)
theorem sm_bed (x1 x2 : Int32) : lw_Sm false 66 202 [x1, x2] := by
  obtain ⟨y1, l1, g1, rfl⟩ := ofi_I x1
  obtain ⟨y2, l2, g2, rfl⟩ := ofi_I x2
  exact sm_i (w := .inl) (fun v => ⟨v, rfl⟩) (by omega) (by omega) (fun S J => s_bed J ⟨l1, g1⟩ ⟨l2, g2⟩) (fun _ _ _ q => A_C_bed q) (fun _ _ _ q => A_M_bed q)
theorem sm_person (x1 x2 : Int32) : lw_Sm false 67 203 [x1, x2] := by
  obtain ⟨y1, l1, g1, rfl⟩ := ofi_I x1
  obtain ⟨y2, l2, g2, rfl⟩ := ofi_I x2
  exact sm_i (w := .inl) (fun v => ⟨v, rfl⟩) (by omega) (by omega) (fun S J => s_person J ⟨l1, g1⟩ ⟨l2, g2⟩) (fun _ _ _ q => A_C_person q) (fun _ _ _ q => A_M_person q)
theorem sm_way (x1 x2 : Int32) : lw_Sm false 68 204 [x1, x2] := by
  obtain ⟨y1, l1, g1, rfl⟩ := ofi_I x1
  obtain ⟨y2, l2, g2, rfl⟩ := ofi_I x2
  exact sm_i (w := .inl) (fun v => ⟨v, rfl⟩) (by omega) (by omega) (fun S J => s_way J ⟨l1, g1⟩ ⟨l2, g2⟩) (fun _ _ _ q => A_C_way q) (fun _ _ _ q => A_M_way q)
theorem sm_skill (x1 x2 : Int32) : lw_Sm false 69 205 [x1, x2] := by
  obtain ⟨y1, l1, g1, rfl⟩ := ofi_I x1
  obtain ⟨y2, l2, g2, rfl⟩ := ofi_I x2
  exact sm_i (w := .inl) (fun v => ⟨v, rfl⟩) (by omega) (by omega) (fun S J => s_skill J ⟨l1, g1⟩ ⟨l2, g2⟩) (fun _ _ _ q => A_C_skill q) (fun _ _ _ q => A_M_skill q)
theorem sm_cover (x1 x2 : Int32) : lw_Sm false 70 206 [x1, x2] := by
  obtain ⟨y1, l1, g1, rfl⟩ := ofi_I x1
  obtain ⟨y2, l2, g2, rfl⟩ := ofi_I x2
  exact sm_i (w := .inl) (fun v => ⟨v, rfl⟩) (by omega) (by omega) (fun S J => s_cover J ⟨l1, g1⟩ ⟨l2, g2⟩) (fun _ _ _ q => A_C_cover q) (fun _ _ _ q => A_M_cover q)
theorem sm_turn (x1 : Int32) : lw_Sm false 71 207 [x1] := by
  obtain ⟨y1, l1, g1, rfl⟩ := ofi_I x1
  exact sm_i (w := .inl) (fun v => ⟨v, rfl⟩) (by omega) (by omega) (fun S J => s_turn J ⟨l1, g1⟩) (fun _ _ _ q => A_C_turn q) (fun _ _ _ q => A_M_turn q)
theorem sm_back : lw_Sm false 72 197 [] := by
  exact sm_i (w := .inl) (fun v => ⟨v, rfl⟩) (by omega) (by omega) (fun S J => s_back J) (fun _ _ _ q => A_C_back q) (fun _ _ _ q => A_M_back q)
theorem sm_takes (x1 x2 x3 x4 : Int32) : lw_Sm false 73 209 [x1, x2, x3, x4] := by
  obtain ⟨y1, l1, g1, rfl⟩ := ofi_I x1
  obtain ⟨y2, l2, g2, rfl⟩ := ofi_I x2
  obtain ⟨y3, l3, g3, rfl⟩ := ofi_I x3
  obtain ⟨y4, l4, g4, rfl⟩ := ofi_I x4
  exact sm_i (w := .inl) (fun v => ⟨v, rfl⟩) (by omega) (by omega) (fun S J => Q2_step J (q_takes J ⟨l1, g1⟩ ⟨l2, g2⟩ ⟨l3, g3⟩ ⟨l4, g4⟩)) (fun _ _ _ q => A_C_takes q) (fun _ _ _ q => A_M_takes q)
theorem sm_bestWay (x1 x2 : Int32) : lw_Sm false 74 210 [x1, x2] := by
  obtain ⟨y1, l1, g1, rfl⟩ := ofi_I x1
  obtain ⟨y2, l2, g2, rfl⟩ := ofi_I x2
  exact sm_i (w := .inl) (fun v => ⟨v, rfl⟩) (by omega) (by omega) (fun S J => Q2_step J (q_bestWay J ⟨l1, g1⟩ ⟨l2, g2⟩)) (fun _ _ _ q => A_C_bestWay q) (fun _ _ _ q => A_M_bestWay q)
theorem sm_anew (x1 x2 x3 x4 x5 x6 : Int32) : lw_Sm false 75 212 [x1, x2, x3, x4, x5, x6] := by
  obtain ⟨y1, l1, g1, rfl⟩ := ofi_I x1
  obtain ⟨y2, l2, g2, rfl⟩ := ofi_I x2
  obtain ⟨y3, l3, g3, rfl⟩ := ofi_I x3
  obtain ⟨y4, l4, g4, rfl⟩ := ofi_I x4
  obtain ⟨y5, l5, g5, rfl⟩ := ofi_I x5
  obtain ⟨y6, l6, g6, rfl⟩ := ofi_I x6
  exact sm_i (w := .inl) (fun v => ⟨v, rfl⟩) (by omega) (by omega) (fun S J => Q2_step J (q_anew J ⟨l1, g1⟩ ⟨l2, g2⟩ ⟨l3, g3⟩ ⟨l4, g4⟩ ⟨l5, g5⟩ ⟨l6, g6⟩)) (fun _ _ _ q => A_C_anew q) (fun _ _ _ q => A_M_anew q)
theorem sm_onBed (x1 x2 x3 : Int32) : lw_Sm false 76 213 [x1, x2, x3] := by
  obtain ⟨y1, l1, g1, rfl⟩ := ofi_I x1
  obtain ⟨y2, l2, g2, rfl⟩ := ofi_I x2
  obtain ⟨y3, l3, g3, rfl⟩ := ofi_I x3
  exact sm_i (w := .inl) (fun v => ⟨v, rfl⟩) (by omega) (by omega) (fun S J => Q2_step J (q_onBed J ⟨l1, g1⟩ ⟨l2, g2⟩ ⟨l3, g3⟩)) (fun _ _ _ q => A_C_onBed q) (fun _ _ _ q => A_M_onBed q)
theorem sm_together (x1 x2 x3 x4 : Int32) : lw_Sm false 77 216 [x1, x2, x3, x4] := by
  obtain ⟨y1, l1, g1, rfl⟩ := ofi_I x1
  obtain ⟨y2, l2, g2, rfl⟩ := ofi_I x2
  obtain ⟨y3, l3, g3, rfl⟩ := ofi_I x3
  obtain ⟨y4, l4, g4, rfl⟩ := ofi_I x4
  exact sm_i (w := .inl) (fun v => ⟨v, rfl⟩) (by omega) (by omega) (fun S J => Q2_step J (q_together J ⟨l1, g1⟩ ⟨l2, g2⟩ ⟨l3, g3⟩ ⟨l4, g4⟩)) (fun _ _ _ q => A_C_together q) (fun _ _ _ q => A_M_together q)
theorem sm_waits (x1 x2 x3 x4 : Int32) : lw_Sm false 78 217 [x1, x2, x3, x4] := by
  obtain ⟨y1, l1, g1, rfl⟩ := ofi_I x1
  obtain ⟨y2, l2, g2, rfl⟩ := ofi_I x2
  obtain ⟨y3, l3, g3, rfl⟩ := ofi_I x3
  obtain ⟨y4, l4, g4, rfl⟩ := ofi_I x4
  exact sm_i (w := .inl) (fun v => ⟨v, rfl⟩) (by omega) (by omega) (fun S J => Q2_step J (q_waits J ⟨l1, g1⟩ ⟨l2, g2⟩ ⟨l3, g3⟩ ⟨l4, g4⟩)) (fun _ _ _ q => A_C_waits q) (fun _ _ _ q => A_M_waits q)
theorem sm_crosswise (x1 x2 : Int32) : lw_Sm false 79 218 [x1, x2] := by
  obtain ⟨y1, l1, g1, rfl⟩ := ofi_I x1
  obtain ⟨y2, l2, g2, rfl⟩ := ofi_I x2
  exact sm_i (w := .inl) (fun v => ⟨v, rfl⟩) (by omega) (by omega) (fun S J => Q2_step J (q_crosswise J ⟨l1, g1⟩ ⟨l2, g2⟩)) (fun _ _ _ q => A_C_crosswise q) (fun _ _ _ q => A_M_crosswise q)
theorem sm_covers (x1 x2 : Int32) : lw_Sm false 84 222 [x1, x2] := by
  obtain ⟨y1, l1, g1, rfl⟩ := ofi_I x1
  obtain ⟨y2, l2, g2, rfl⟩ := ofi_I x2
  exact sm_i (w := .inl) (fun v => ⟨v, rfl⟩) (by omega) (by omega) (fun S J => Q2_step J (q_covers J ⟨l1, g1⟩ ⟨l2, g2⟩)) (fun _ _ _ q => A_C_covers q) (fun _ _ _ q => A_M_covers q)
theorem sm_who (x1 : Int32) : lw_Sm false 94 224 [x1] := by
  obtain ⟨y1, l1, g1, rfl⟩ := ofi_I x1
  exact sm_i (w := .inl) (fun v => ⟨v, rfl⟩) (by omega) (by omega) (fun S J => Q2_step J (q_who J ⟨l1, g1⟩)) (fun _ _ _ q => A_C_who q) (fun _ _ _ q => A_M_who q)
theorem sm_learned (x1 x2 : Int32) : lw_Sm false 86 226 [x1, x2] := by
  obtain ⟨y1, l1, g1, rfl⟩ := ofi_I x1
  obtain ⟨y2, l2, g2, rfl⟩ := ofi_I x2
  exact sm_i (w := .inl) (fun v => ⟨v, rfl⟩) (by omega) (by omega) (fun S J => Q2_step J (q_learned J ⟨l1, g1⟩ ⟨l2, g2⟩)) (fun _ _ _ q => A_C_learned q) (fun _ _ _ q => A_M_learned q)
theorem sm_order (x1 x2 x3 : Int32) : lw_Sm false 87 227 [x1, x2, x3] := by
  obtain ⟨y1, l1, g1, rfl⟩ := ofi_I x1
  obtain ⟨y2, l2, g2, rfl⟩ := ofi_I x2
  obtain ⟨y3, l3, g3, rfl⟩ := ofi_I x3
  exact sm_i (w := .inl) (fun v => ⟨v, rfl⟩) (by omega) (by omega) (fun S J => Q2_step J (q_order J ⟨l1, g1⟩ ⟨l2, g2⟩ ⟨l3, g3⟩)) (fun _ _ _ q => A_C_order q) (fun _ _ _ q => A_M_order q)
theorem sm_tapes (x1 x2 x3 x4 : Int32) : lw_Sm false 80 228 [x1, x2, x3, x4] := by
  obtain ⟨y1, l1, g1, rfl⟩ := ofi_I x1
  obtain ⟨y2, l2, g2, rfl⟩ := ofi_I x2
  obtain ⟨y3, l3, g3, rfl⟩ := ofi_I x3
  obtain ⟨y4, l4, g4, rfl⟩ := ofi_I x4
  exact sm_i (w := .inl) (fun v => ⟨v, rfl⟩) (by omega) (by omega) (fun S J => Q2_step J (q_tapes J ⟨l1, g1⟩ ⟨l2, g2⟩ ⟨l3, g3⟩ ⟨l4, g4⟩)) (fun _ _ _ q => A_C_tapes q) (fun _ _ _ q => A_M_tapes q)
theorem sm_lumpy : lw_Sm false 112 229 [] := by
  exact sm_i (w := .inl) (fun v => ⟨v, rfl⟩) (by omega) (by omega) (fun S J => Q2_step J (q_lumpy J )) (fun _ _ _ q => A_C_lumpy q) (fun _ _ _ q => A_M_lumpy q)
theorem sm_forged : lw_Sm false 113 230 [] := by
  exact sm_i (w := .inl) (fun v => ⟨v, rfl⟩) (by omega) (by omega) (fun S J => Q2_step J (q_forged J )) (fun _ _ _ q => A_C_forged q) (fun _ _ _ q => A_M_forged q)
theorem sm_corner (x1 x2 : Int32) : lw_Sm false 102 231 [x1, x2] := by
  obtain ⟨y1, l1, g1, rfl⟩ := ofi_I x1
  obtain ⟨y2, l2, g2, rfl⟩ := ofi_I x2
  exact sm_i (w := .inl) (fun v => ⟨v, rfl⟩) (by omega) (by omega) (fun S J => Q2_step J (q_corner J ⟨l1, g1⟩ ⟨l2, g2⟩)) (fun _ _ _ q => A_C_corner q) (fun _ _ _ q => A_M_corner q)
theorem sm_right (x1 : Int32) : lw_Sm false 103 234 [x1] := by
  obtain ⟨y1, l1, g1, rfl⟩ := ofi_I x1
  exact sm_i (w := .inl) (fun v => ⟨v, rfl⟩) (by omega) (by omega) (fun S J => Q2_step J (q_right J ⟨l1, g1⟩)) (fun _ _ _ q => A_C_right q) (fun _ _ _ q => A_M_right q)
theorem sm_lands (x1 : Int32) : lw_Sm false 104 236 [x1] := by
  obtain ⟨y1, l1, g1, rfl⟩ := ofi_I x1
  exact sm_i (w := .inl) (fun v => ⟨v, rfl⟩) (by omega) (by omega) (fun S J => Q2_step J (q_lands J ⟨l1, g1⟩)) (fun _ _ _ q => A_C_lands q) (fun _ _ _ q => A_M_lands q)
theorem sm_orderOf : lw_Sm false 105 237 [] := by
  exact sm_i (w := .inl) (fun v => ⟨v, rfl⟩) (by omega) (by omega) (fun S J => Q2_step J (q_orderOf J )) (fun _ _ _ q => A_C_orderOf q) (fun _ _ _ q => A_M_orderOf q)
theorem sm_mixed : lw_Sm false 106 238 [] := by
  exact sm_i (w := .inl) (fun v => ⟨v, rfl⟩) (by omega) (by omega) (fun S J => Q2_step J (q_mixed J )) (fun _ _ _ q => A_C_mixed q) (fun _ _ _ q => A_M_mixed q)
theorem sm_waysToLie (x1 : Int32) : lw_Sm false 107 239 [x1] := by
  obtain ⟨y1, l1, g1, rfl⟩ := ofi_I x1
  exact sm_i (w := .inl) (fun v => ⟨v, rfl⟩) (by omega) (by omega) (fun S J => Q2_step J (q_waysToLie J ⟨l1, g1⟩)) (fun _ _ _ q => A_C_waysToLie q) (fun _ _ _ q => A_M_waysToLie q)
theorem sm_cat (x1 x2 x3 x4 : Int32) : lw_Sm true 89 242 [x1, x2, x3, x4] := by
  obtain ⟨y1, l1, g1, rfl⟩ := ofi_I x1
  obtain ⟨y2, l2, g2, rfl⟩ := ofi_I x2
  obtain ⟨y3, l3, g3, rfl⟩ := ofi_I x3
  obtain ⟨y4, l4, g4, rfl⟩ := ofi_I x4
  exact sm_i (w := (fun x => .inr (.inr x))) (fun v => ⟨v, rfl⟩) (by omega) (by omega) (fun S J => Q2_step J (q_cat J ⟨l1, g1⟩ ⟨l2, g2⟩ ⟨l3, g3⟩ ⟨l4, g4⟩)) (fun _ _ _ q => A_C_cat q) (fun _ _ _ q => A_M_cat q)
theorem sm_look (x1 x2 x3 : Int32) : lw_Sm false 90 243 [x1, x2, x3] := by
  obtain ⟨y1, l1, g1, rfl⟩ := ofi_I x1
  obtain ⟨y2, l2, g2, rfl⟩ := ofi_I x2
  obtain ⟨y3, l3, g3, rfl⟩ := ofi_I x3
  exact sm_i (w := .inl) (fun v => ⟨v, rfl⟩) (by omega) (by omega) (fun S J => Q2_step J (q_look J ⟨l1, g1⟩ ⟨l2, g2⟩ ⟨l3, g3⟩)) (fun _ _ _ q => A_C_look q) (fun _ _ _ q => A_M_look q)
theorem sm_needs (x1 x2 x3 x4 x5 : Int32) : lw_Sm false 81 244 [x1, x2, x3, x4, x5] := by
  obtain ⟨y1, l1, g1, rfl⟩ := ofi_I x1
  obtain ⟨y2, l2, g2, rfl⟩ := ofi_I x2
  obtain ⟨y3, l3, g3, rfl⟩ := ofi_I x3
  obtain ⟨y4, l4, g4, rfl⟩ := ofi_I x4
  obtain ⟨y5, l5, g5, rfl⟩ := ofi_I x5
  exact sm_i (w := .inl) (fun v => ⟨v, rfl⟩) (by omega) (by omega) (fun S J => Q2_step J (q_needs J ⟨l1, g1⟩ ⟨l2, g2⟩ ⟨l3, g3⟩ ⟨l4, g4⟩ ⟨l5, g5⟩)) (fun _ _ _ q => A_C_needs q) (fun _ _ _ q => A_M_needs q)
theorem sm_worst (x1 : Int32) : lw_Sm false 96 245 [x1] := by
  obtain ⟨y1, l1, g1, rfl⟩ := ofi_I x1
  exact sm_i (w := .inl) (fun v => ⟨v, rfl⟩) (by omega) (by omega) (fun S J => Q2_step J (q_worst J ⟨l1, g1⟩)) (fun _ _ _ q => A_C_worst q) (fun _ _ _ q => A_M_worst q)
theorem sm_swap (x1 : Int32) : lw_Sm false 85 246 [x1] := by
  obtain ⟨y1, l1, g1, rfl⟩ := ofi_I x1
  exact sm_i (w := .inl) (fun v => ⟨v, rfl⟩) (by omega) (by omega) (fun S J => Q2_step J (q_swap J ⟨l1, g1⟩)) (fun _ _ _ q => A_C_swap q) (fun _ _ _ q => A_M_swap q)
theorem sm_rather (x1 x2 x3 x4 : Int32) : lw_Sm false 91 247 [x1, x2, x3, x4] := by
  obtain ⟨y1, l1, g1, rfl⟩ := ofi_I x1
  obtain ⟨y2, l2, g2, rfl⟩ := ofi_I x2
  obtain ⟨y3, l3, g3, rfl⟩ := ofi_I x3
  obtain ⟨y4, l4, g4, rfl⟩ := ofi_I x4
  exact sm_i (w := .inl) (fun v => ⟨v, rfl⟩) (by omega) (by omega) (fun S J => Q2_step J (q_rather J ⟨l1, g1⟩ ⟨l2, g2⟩ ⟨l3, g3⟩ ⟨l4, g4⟩)) (fun _ _ _ q => A_C_rather q) (fun _ _ _ q => A_M_rather q)
theorem sm_teacher (x1 : Int32) : lw_Sm false 97 248 [x1] := by
  obtain ⟨y1, l1, g1, rfl⟩ := ofi_I x1
  exact sm_i (w := .inl) (fun v => ⟨v, rfl⟩) (by omega) (by omega) (fun S J => Q2_step J (q_teacher J ⟨l1, g1⟩)) (fun _ _ _ q => A_C_teacher q) (fun _ _ _ q => A_M_teacher q)
theorem sm_line (x1 x2 x3 : Int32) : lw_Sm false 82 249 [x1, x2, x3] := by
  obtain ⟨y1, l1, g1, rfl⟩ := ofi_I x1
  obtain ⟨y2, l2, g2, rfl⟩ := ofi_I x2
  obtain ⟨y3, l3, g3, rfl⟩ := ofi_I x3
  exact sm_i (w := .inl) (fun v => ⟨v, rfl⟩) (by omega) (by omega) (fun S J => Q2_step J (q_line J ⟨l1, g1⟩ ⟨l2, g2⟩ ⟨l3, g3⟩)) (fun _ _ _ q => A_C_line q) (fun _ _ _ q => A_M_line q)
theorem sm_half (x1 x2 : Int32) : lw_Sm false 92 250 [x1, x2] := by
  obtain ⟨y1, l1, g1, rfl⟩ := ofi_I x1
  obtain ⟨y2, l2, g2, rfl⟩ := ofi_I x2
  exact sm_i (w := .inl) (fun v => ⟨v, rfl⟩) (by omega) (by omega) (fun S J => Q2_step J (q_half J ⟨l1, g1⟩ ⟨l2, g2⟩)) (fun _ _ _ q => A_C_half q) (fun _ _ _ q => A_M_half q)
theorem sm_split (x1 x2 x3 : Int32) : lw_Sm false 98 251 [x1, x2, x3] := by
  obtain ⟨y1, l1, g1, rfl⟩ := ofi_I x1
  obtain ⟨y2, l2, g2, rfl⟩ := ofi_I x2
  obtain ⟨y3, l3, g3, rfl⟩ := ofi_I x3
  exact sm_i (w := .inl) (fun v => ⟨v, rfl⟩) (by omega) (by omega) (fun S J => Q2_step J (q_split J ⟨l1, g1⟩ ⟨l2, g2⟩ ⟨l3, g3⟩)) (fun _ _ _ q => A_C_split q) (fun _ _ _ q => A_M_split q)
theorem sm_inTime (x1 x2 : Int32) : lw_Sm false 99 252 [x1, x2] := by
  obtain ⟨y1, l1, g1, rfl⟩ := ofi_I x1
  obtain ⟨y2, l2, g2, rfl⟩ := ofi_I x2
  exact sm_i (w := .inl) (fun v => ⟨v, rfl⟩) (by omega) (by omega) (fun S J => Q2_step J (q_inTime J ⟨l1, g1⟩ ⟨l2, g2⟩)) (fun _ _ _ q => A_C_inTime q) (fun _ _ _ q => A_M_inTime q)
theorem sm_reach : lw_Sm false 108 253 [] := by
  exact sm_i (w := .inl) (fun v => ⟨v, rfl⟩) (by omega) (by omega) (fun S J => Q2_step J (q_reach J )) (fun _ _ _ q => A_C_reach q) (fun _ _ _ q => A_M_reach q)
theorem sm_commute (x1 x2 : Int32) : lw_Sm false 109 254 [x1, x2] := by
  obtain ⟨y1, l1, g1, rfl⟩ := ofi_I x1
  obtain ⟨y2, l2, g2, rfl⟩ := ofi_I x2
  exact sm_i (w := .inl) (fun v => ⟨v, rfl⟩) (by omega) (by omega) (fun S J => Q2_step J (q_commute J ⟨l1, g1⟩ ⟨l2, g2⟩)) (fun _ _ _ q => A_C_commute q) (fun _ _ _ q => A_M_commute q)
theorem sm_teach : lw_Sm false 95 256 [] := by
  exact sm_i (w := .inl) (fun v => ⟨v, rfl⟩) (by omega) (by omega) (fun S J => Q2_step J (q_teach J )) (fun _ _ _ q => A_C_teach q) (fun _ _ _ q => A_M_teach q)
theorem sm_left (x1 x2 x3 x4 : Int32) : lw_Sm false 83 257 [x1, x2, x3, x4] := by
  obtain ⟨y1, l1, g1, rfl⟩ := ofi_I x1
  obtain ⟨y2, l2, g2, rfl⟩ := ofi_I x2
  obtain ⟨y3, l3, g3, rfl⟩ := ofi_I x3
  obtain ⟨y4, l4, g4, rfl⟩ := ofi_I x4
  exact sm_i (w := .inl) (fun v => ⟨v, rfl⟩) (by omega) (by omega) (fun S J => Q2_step J (q_left J ⟨l1, g1⟩ ⟨l2, g2⟩ ⟨l3, g3⟩ ⟨l4, g4⟩)) (fun _ _ _ q => A_C_left q) (fun _ _ _ q => A_M_left q)
theorem sm_enough (x1 : Int32) : lw_Sm false 100 260 [x1] := by
  obtain ⟨y1, l1, g1, rfl⟩ := ofi_I x1
  exact sm_i (w := .inl) (fun v => ⟨v, rfl⟩) (by omega) (by omega) (fun S J => Q2_step J (q_enough J ⟨l1, g1⟩)) (fun _ _ _ q => A_C_enough q) (fun _ _ _ q => A_M_enough q)
theorem sm_flow (x1 x2 x3 x4 : Int32) : lw_Sm false 88 262 [x1, x2, x3, x4] := by
  obtain ⟨y1, l1, g1, rfl⟩ := ofi_I x1
  obtain ⟨y2, l2, g2, rfl⟩ := ofi_I x2
  obtain ⟨y3, l3, g3, rfl⟩ := ofi_I x3
  obtain ⟨y4, l4, g4, rfl⟩ := ofi_I x4
  exact sm_i (w := .inl) (fun v => ⟨v, rfl⟩) (by omega) (by omega) (fun S J => Q2_step J (q_flow J ⟨l1, g1⟩ ⟨l2, g2⟩ ⟨l3, g3⟩ ⟨l4, g4⟩)) (fun _ _ _ q => A_C_flow q) (fun _ _ _ q => A_M_flow q)
theorem sm_twins (x1 : Int32) : lw_Sm false 93 263 [x1] := by
  obtain ⟨y1, l1, g1, rfl⟩ := ofi_I x1
  exact sm_i (w := .inl) (fun v => ⟨v, rfl⟩) (by omega) (by omega) (fun S J => Q2_step J (q_twins J ⟨l1, g1⟩)) (fun _ _ _ q => A_C_twins q) (fun _ _ _ q => A_M_twins q)
theorem sm_range (x1 : Int32) : lw_Sm false 101 264 [x1] := by
  obtain ⟨y1, l1, g1, rfl⟩ := ofi_I x1
  exact sm_i (w := .inl) (fun v => ⟨v, rfl⟩) (by omega) (by omega) (fun S J => Q2_step J (q_range J ⟨l1, g1⟩)) (fun _ _ _ q => A_C_range q) (fun _ _ _ q => A_M_range q)
theorem sm_row (x1 : Int32) : lw_Sm false 110 265 [x1] := by
  obtain ⟨y1, l1, g1, rfl⟩ := ofi_I x1
  exact sm_i (w := .inl) (fun v => ⟨v, rfl⟩) (by omega) (by omega) (fun S J => s_row J ⟨l1, g1⟩) (fun _ _ _ q => A_C_row q) (fun _ _ _ q => A_M_row q)
theorem sm_judge (x1 x2 : Int32) : lw_Sm false 114 266 [x1, x2] := by
  obtain ⟨y1, l1, g1, rfl⟩ := ofi_I x1
  obtain ⟨y2, l2, g2, rfl⟩ := ofi_I x2
  exact sm_i (w := .inl) (fun v => ⟨v, rfl⟩) (by omega) (by omega) (fun S J => s_judge J ⟨l1, g1⟩ ⟨l2, g2⟩) (fun _ _ _ q => A_C_judge q) (fun _ _ _ q => A_M_judge q)
theorem sm_clear : lw_Sm false 111 267 [] := by
  exact sm_i (w := .inl) (fun v => ⟨v, rfl⟩) (by omega) (by omega) (fun S J => s_clear J) (fun _ _ _ q => A_C_clear q) (fun _ _ _ q => A_M_clear q)
theorem sm_lots (x1 x2 x3 : Int32) : lw_Sm false 115 269 [x1, x2, x3] := by
  obtain ⟨y1, l1, g1, rfl⟩ := ofi_I x1
  obtain ⟨y3, l3, g3, rfl⟩ := ofi_I x3
  exact sm_i (w := .inl) (fun v => ⟨v, rfl⟩) (by omega) (by omega) (fun S J => Q2_step J (q_lots J ⟨l1, g1⟩ ⟨l3, g3⟩)) (fun _ _ _ q => A_C_lots q) (fun _ _ _ q => A_M_lots q)
theorem sm_image : lw_Sm false 116 194 [] := by
  exact sm_i (w := .inl) (fun v => ⟨v, rfl⟩) (by omega) (by omega) (fun S J => s_image J) (fun _ _ _ q => A_C_image q) (fun _ _ _ q => A_M_image q)
theorem sm_restore : lw_Sm false 117 195 [] := by
  exact sm_i (w := .inl) (fun v => ⟨v, rfl⟩) (by omega) (by omega) (fun S J => s_restore J) (fun _ _ _ q => A_C_restore q) (fun _ _ _ q => A_M_restore q)
theorem sm_count (x1 : Int32) : lw_Sm false 118 270 [x1] := by
  obtain ⟨y1, l1, g1, rfl⟩ := ofi_I x1
  exact sm_i (w := .inl) (fun v => ⟨v, rfl⟩) (by omega) (by omega) (fun S J => Q2_step J (q_count J ⟨l1, g1⟩)) (fun _ _ _ q => A_C_count q) (fun _ _ _ q => A_M_count q)
