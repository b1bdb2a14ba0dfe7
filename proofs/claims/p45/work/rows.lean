section
-- ===== PART A: goes FIRST, ahead of the names: the tables' words, and 'selects' of the private methods out of them =====
/-- a private method of a class that the tables say can be made, by its rows of tables_1 -/
def lw_okq (q : MethodName × Nat) : Prop := (q.1.cls ≠ "java/lang/invoke/MethodHandle" ∧ q.1.cls ≠ "java/lang/invoke/VarHandle") ∧ Cond.instantiable q.1.cls q.2 ∈ tables_1 ∧ Cond.privateMethod q.1 ∈ tables_1 ∧ Cond.instanceMethod q.1 ∈ tables_1
theorem lw_p0 : lw_okq (⟨"DreamLedger", "requireTag", "(I)V"⟩, 9) := ⟨⟨by decide +kernel, by decide +kernel⟩, List.mem_of_getElem? (i := 15) (by decide +kernel), List.mem_of_getElem? (i := 115) (by decide +kernel), List.mem_of_getElem? (i := 116) (by decide +kernel)⟩
theorem lw_p1 : lw_okq (⟨"java/lang/Throwable", "fillInStackTrace", "(I)Ljava/lang/Throwable;"⟩, 6) := ⟨⟨by decide +kernel, by decide +kernel⟩, List.mem_of_getElem? (i := 157) (by decide +kernel), List.mem_of_getElem? (i := 155) (by decide +kernel), List.mem_of_getElem? (i := 156) (by decide +kernel)⟩
theorem lw_p2 : lw_okq (⟨"DreamLedger", "requireParent", "(I)V"⟩, 9) := ⟨⟨by decide +kernel, by decide +kernel⟩, List.mem_of_getElem? (i := 15) (by decide +kernel), List.mem_of_getElem? (i := 191) (by decide +kernel), List.mem_of_getElem? (i := 192) (by decide +kernel)⟩
theorem lw_p3 : lw_okq (⟨"DreamLedger$TagTree", "countAbove", "(I)I"⟩, 3) := ⟨⟨by decide +kernel, by decide +kernel⟩, List.mem_of_getElem? (i := 23) (by decide +kernel), List.mem_of_getElem? (i := 215) (by decide +kernel), List.mem_of_getElem? (i := 216) (by decide +kernel)⟩
theorem lw_p4 : lw_okq (⟨"DreamLedger$TagTree", "countBelow", "(I)I"⟩, 3) := ⟨⟨by decide +kernel, by decide +kernel⟩, List.mem_of_getElem? (i := 23) (by decide +kernel), List.mem_of_getElem? (i := 229) (by decide +kernel), List.mem_of_getElem? (i := 230) (by decide +kernel)⟩
theorem lw_p5 : lw_okq (⟨"DreamLedger$TagTree", "standsBelow", "(II)Z"⟩, 3) := ⟨⟨by decide +kernel, by decide +kernel⟩, List.mem_of_getElem? (i := 23) (by decide +kernel), List.mem_of_getElem? (i := 233) (by decide +kernel), List.mem_of_getElem? (i := 234) (by decide +kernel)⟩
theorem lw_p6 : lw_okq (⟨"DreamLedger$TagTree", "lowestOf", "(I)I"⟩, 3) := ⟨⟨by decide +kernel, by decide +kernel⟩, List.mem_of_getElem? (i := 23) (by decide +kernel), List.mem_of_getElem? (i := 249) (by decide +kernel), List.mem_of_getElem? (i := 250) (by decide +kernel)⟩
theorem lw_p7 : lw_okq (⟨"DreamLedger", "dreamsHaving", "(I)I"⟩, 9) := ⟨⟨by decide +kernel, by decide +kernel⟩, List.mem_of_getElem? (i := 15) (by decide +kernel), List.mem_of_getElem? (i := 258) (by decide +kernel), List.mem_of_getElem? (i := 259) (by decide +kernel)⟩
theorem lw_p8 : lw_okq (⟨"DreamLedger", "requireDream", "(I)V"⟩, 9) := ⟨⟨by decide +kernel, by decide +kernel⟩, List.mem_of_getElem? (i := 15) (by decide +kernel), List.mem_of_getElem? (i := 268) (by decide +kernel), List.mem_of_getElem? (i := 269) (by decide +kernel)⟩
theorem lw_p9 : lw_okq (⟨"DreamLedger", "requireTerm", "(I)V"⟩, 9) := ⟨⟨by decide +kernel, by decide +kernel⟩, List.mem_of_getElem? (i := 15) (by decide +kernel), List.mem_of_getElem? (i := 293) (by decide +kernel), List.mem_of_getElem? (i := 294) (by decide +kernel)⟩
theorem lw_p10 : lw_okq (⟨"DreamLedger", "tagsSharedBy", "(I)I"⟩, 9) := ⟨⟨by decide +kernel, by decide +kernel⟩, List.mem_of_getElem? (i := 15) (by decide +kernel), List.mem_of_getElem? (i := 306) (by decide +kernel), List.mem_of_getElem? (i := 307) (by decide +kernel)⟩
theorem lw_p11 : lw_okq (⟨"DreamLedger", "smallestCover", "(I)I"⟩, 9) := ⟨⟨by decide +kernel, by decide +kernel⟩, List.mem_of_getElem? (i := 15) (by decide +kernel), List.mem_of_getElem? (i := 319) (by decide +kernel), List.mem_of_getElem? (i := 320) (by decide +kernel)⟩
theorem lw_p12 : lw_okq (⟨"DreamLedger$CoverSearch", "smallestOf", "(I)I"⟩, 2) := ⟨⟨by decide +kernel, by decide +kernel⟩, List.mem_of_getElem? (i := 69) (by decide +kernel), List.mem_of_getElem? (i := 323) (by decide +kernel), List.mem_of_getElem? (i := 324) (by decide +kernel)⟩
theorem lw_p13 : lw_okq (⟨"DreamLedger", "countFadedAfter", "(I)I"⟩, 9) := ⟨⟨by decide +kernel, by decide +kernel⟩, List.mem_of_getElem? (i := 15) (by decide +kernel), List.mem_of_getElem? (i := 350) (by decide +kernel), List.mem_of_getElem? (i := 351) (by decide +kernel)⟩
theorem lw_p14 : lw_okq (⟨"DreamLedger", "vividnessAfter", "(II)I"⟩, 9) := ⟨⟨by decide +kernel, by decide +kernel⟩, List.mem_of_getElem? (i := 15) (by decide +kernel), List.mem_of_getElem? (i := 354) (by decide +kernel), List.mem_of_getElem? (i := 355) (by decide +kernel)⟩
theorem lw_p15 : lw_okq (⟨"DreamLedger", "ownTagsOfLatest", "()I"⟩, 9) := ⟨⟨by decide +kernel, by decide +kernel⟩, List.mem_of_getElem? (i := 15) (by decide +kernel), List.mem_of_getElem? (i := 358) (by decide +kernel), List.mem_of_getElem? (i := 359) (by decide +kernel)⟩
def lw_privs_1 : List (MethodName × Nat) := [(⟨"DreamLedger", "requireTag", "(I)V"⟩, 9), (⟨"java/lang/Throwable", "fillInStackTrace", "(I)Ljava/lang/Throwable;"⟩, 6), (⟨"DreamLedger", "requireParent", "(I)V"⟩, 9), (⟨"DreamLedger$TagTree", "countAbove", "(I)I"⟩, 3), (⟨"DreamLedger$TagTree", "countBelow", "(I)I"⟩, 3), (⟨"DreamLedger$TagTree", "standsBelow", "(II)Z"⟩, 3), (⟨"DreamLedger$TagTree", "lowestOf", "(I)I"⟩, 3), (⟨"DreamLedger", "dreamsHaving", "(I)I"⟩, 9), (⟨"DreamLedger", "requireDream", "(I)V"⟩, 9), (⟨"DreamLedger", "requireTerm", "(I)V"⟩, 9), (⟨"DreamLedger", "tagsSharedBy", "(I)I"⟩, 9), (⟨"DreamLedger", "smallestCover", "(I)I"⟩, 9), (⟨"DreamLedger$CoverSearch", "smallestOf", "(I)I"⟩, 2), (⟨"DreamLedger", "countFadedAfter", "(I)I"⟩, 9), (⟨"DreamLedger", "vividnessAfter", "(II)I"⟩, 9), (⟨"DreamLedger", "ownTagsOfLatest", "()I"⟩, 9)]
theorem lw_r1 : ∀ q ∈ lw_privs_1, lw_okq q := List.forall_mem_cons.mpr ⟨lw_p0, List.forall_mem_cons.mpr ⟨lw_p1, List.forall_mem_cons.mpr ⟨lw_p2, List.forall_mem_cons.mpr ⟨lw_p3, List.forall_mem_cons.mpr ⟨lw_p4, List.forall_mem_cons.mpr ⟨lw_p5, List.forall_mem_cons.mpr ⟨lw_p6, List.forall_mem_cons.mpr ⟨lw_p7, List.forall_mem_cons.mpr ⟨lw_p8, List.forall_mem_cons.mpr ⟨lw_p9, List.forall_mem_cons.mpr ⟨lw_p10, List.forall_mem_cons.mpr ⟨lw_p11, List.forall_mem_cons.mpr ⟨lw_p12, List.forall_mem_cons.mpr ⟨lw_p13, List.forall_mem_cons.mpr ⟨lw_p14, List.forall_mem_cons.mpr ⟨lw_p15, fun _ h => absurd h List.not_mem_nil⟩⟩⟩⟩⟩⟩⟩⟩⟩⟩⟩⟩⟩⟩⟩⟩
theorem lw_p16 : lw_okq (⟨"DreamLedger$TagTree", "grow", "()I"⟩, 3) := ⟨⟨by decide +kernel, by decide +kernel⟩, List.mem_of_getElem? (i := 23) (by decide +kernel), List.mem_of_getElem? (i := 431) (by decide +kernel), List.mem_of_getElem? (i := 432) (by decide +kernel)⟩
theorem lw_p17 : lw_okq (⟨"DreamLedger$TagTree", "hang", "(II)V"⟩, 3) := ⟨⟨by decide +kernel, by decide +kernel⟩, List.mem_of_getElem? (i := 23) (by decide +kernel), List.mem_of_getElem? (i := 435) (by decide +kernel), List.mem_of_getElem? (i := 436) (by decide +kernel)⟩
theorem lw_p18 : lw_okq (⟨"DreamLedger$TagTree", "lineFrom", "(I)I"⟩, 3) := ⟨⟨by decide +kernel, by decide +kernel⟩, List.mem_of_getElem? (i := 23) (by decide +kernel), List.mem_of_getElem? (i := 439) (by decide +kernel), List.mem_of_getElem? (i := 440) (by decide +kernel)⟩
theorem lw_p19 : lw_okq (⟨"DreamLedger", "requirePlaceUnder", "(II)V"⟩, 9) := ⟨⟨by decide +kernel, by decide +kernel⟩, List.mem_of_getElem? (i := 15) (by decide +kernel), List.mem_of_getElem? (i := 448) (by decide +kernel), List.mem_of_getElem? (i := 449) (by decide +kernel)⟩
theorem lw_p20 : lw_okq (⟨"DreamLedger$TagTree", "canHang", "(II)Z"⟩, 3) := ⟨⟨by decide +kernel, by decide +kernel⟩, List.mem_of_getElem? (i := 23) (by decide +kernel), List.mem_of_getElem? (i := 468) (by decide +kernel), List.mem_of_getElem? (i := 469) (by decide +kernel)⟩
theorem lw_p21 : lw_okq (⟨"DreamLedger", "moveTag", "(II)V"⟩, 9) := ⟨⟨by decide +kernel, by decide +kernel⟩, List.mem_of_getElem? (i := 15) (by decide +kernel), List.mem_of_getElem? (i := 473) (by decide +kernel), List.mem_of_getElem? (i := 474) (by decide +kernel)⟩
theorem lw_p22 : lw_okq (⟨"DreamLedger$TagTree", "linesOf", "(I)I"⟩, 3) := ⟨⟨by decide +kernel, by decide +kernel⟩, List.mem_of_getElem? (i := 23) (by decide +kernel), List.mem_of_getElem? (i := 478) (by decide +kernel), List.mem_of_getElem? (i := 479) (by decide +kernel)⟩
theorem lw_p23 : lw_okq (⟨"DreamLedger", "rematchTerms", "()V"⟩, 9) := ⟨⟨by decide +kernel, by decide +kernel⟩, List.mem_of_getElem? (i := 15) (by decide +kernel), List.mem_of_getElem? (i := 482) (by decide +kernel), List.mem_of_getElem? (i := 483) (by decide +kernel)⟩
theorem lw_p24 : lw_okq (⟨"DreamLedger", "allDreams", "()I"⟩, 9) := ⟨⟨by decide +kernel, by decide +kernel⟩, List.mem_of_getElem? (i := 15) (by decide +kernel), List.mem_of_getElem? (i := 486) (by decide +kernel), List.mem_of_getElem? (i := 487) (by decide +kernel)⟩
theorem lw_p25 : lw_okq (⟨"DreamLedger$TermList", "combine", "(II)V"⟩, 5) := ⟨⟨by decide +kernel, by decide +kernel⟩, List.mem_of_getElem? (i := 43) (by decide +kernel), List.mem_of_getElem? (i := 490) (by decide +kernel), List.mem_of_getElem? (i := 491) (by decide +kernel)⟩
theorem lw_p26 : lw_okq (⟨"DreamLedger$TermList", "matchedAhead", "(II)I"⟩, 5) := ⟨⟨by decide +kernel, by decide +kernel⟩, List.mem_of_getElem? (i := 43) (by decide +kernel), List.mem_of_getElem? (i := 494) (by decide +kernel), List.mem_of_getElem? (i := 495) (by decide +kernel)⟩
theorem lw_p27 : lw_okq (⟨"DreamLedger", "setOwnTags", "(II)V"⟩, 9) := ⟨⟨by decide +kernel, by decide +kernel⟩, List.mem_of_getElem? (i := 15) (by decide +kernel), List.mem_of_getElem? (i := 508) (by decide +kernel), List.mem_of_getElem? (i := 509) (by decide +kernel)⟩
theorem lw_p28 : lw_okq (⟨"DreamLedger", "requireNights", "(I)V"⟩, 9) := ⟨⟨by decide +kernel, by decide +kernel⟩, List.mem_of_getElem? (i := 15) (by decide +kernel), List.mem_of_getElem? (i := 537) (by decide +kernel), List.mem_of_getElem? (i := 538) (by decide +kernel)⟩
theorem lw_p29 : lw_okq (⟨"DreamLedger", "requireRoomForTerm", "()V"⟩, 9) := ⟨⟨by decide +kernel, by decide +kernel⟩, List.mem_of_getElem? (i := 15) (by decide +kernel), List.mem_of_getElem? (i := 551) (by decide +kernel), List.mem_of_getElem? (i := 552) (by decide +kernel)⟩
theorem lw_p30 : lw_okq (⟨"DreamLedger", "addTerm", "(III)I"⟩, 9) := ⟨⟨by decide +kernel, by decide +kernel⟩, List.mem_of_getElem? (i := 15) (by decide +kernel), List.mem_of_getElem? (i := 556) (by decide +kernel), List.mem_of_getElem? (i := 557) (by decide +kernel)⟩
theorem lw_p31 : lw_okq (⟨"DreamLedger$TermList", "add", "(III)I"⟩, 5) := ⟨⟨by decide +kernel, by decide +kernel⟩, List.mem_of_getElem? (i := 43) (by decide +kernel), List.mem_of_getElem? (i := 560) (by decide +kernel), List.mem_of_getElem? (i := 561) (by decide +kernel)⟩
def lw_privs_2 : List (MethodName × Nat) := [(⟨"DreamLedger$TagTree", "grow", "()I"⟩, 3), (⟨"DreamLedger$TagTree", "hang", "(II)V"⟩, 3), (⟨"DreamLedger$TagTree", "lineFrom", "(I)I"⟩, 3), (⟨"DreamLedger", "requirePlaceUnder", "(II)V"⟩, 9), (⟨"DreamLedger$TagTree", "canHang", "(II)Z"⟩, 3), (⟨"DreamLedger", "moveTag", "(II)V"⟩, 9), (⟨"DreamLedger$TagTree", "linesOf", "(I)I"⟩, 3), (⟨"DreamLedger", "rematchTerms", "()V"⟩, 9), (⟨"DreamLedger", "allDreams", "()I"⟩, 9), (⟨"DreamLedger$TermList", "combine", "(II)V"⟩, 5), (⟨"DreamLedger$TermList", "matchedAhead", "(II)I"⟩, 5), (⟨"DreamLedger", "setOwnTags", "(II)V"⟩, 9), (⟨"DreamLedger", "requireNights", "(I)V"⟩, 9), (⟨"DreamLedger", "requireRoomForTerm", "()V"⟩, 9), (⟨"DreamLedger", "addTerm", "(III)I"⟩, 9), (⟨"DreamLedger$TermList", "add", "(III)I"⟩, 5)]
theorem lw_r2 : ∀ q ∈ lw_privs_2, lw_okq q := List.forall_mem_cons.mpr ⟨lw_p16, List.forall_mem_cons.mpr ⟨lw_p17, List.forall_mem_cons.mpr ⟨lw_p18, List.forall_mem_cons.mpr ⟨lw_p19, List.forall_mem_cons.mpr ⟨lw_p20, List.forall_mem_cons.mpr ⟨lw_p21, List.forall_mem_cons.mpr ⟨lw_p22, List.forall_mem_cons.mpr ⟨lw_p23, List.forall_mem_cons.mpr ⟨lw_p24, List.forall_mem_cons.mpr ⟨lw_p25, List.forall_mem_cons.mpr ⟨lw_p26, List.forall_mem_cons.mpr ⟨lw_p27, List.forall_mem_cons.mpr ⟨lw_p28, List.forall_mem_cons.mpr ⟨lw_p29, List.forall_mem_cons.mpr ⟨lw_p30, List.forall_mem_cons.mpr ⟨lw_p31, fun _ h => absurd h List.not_mem_nil⟩⟩⟩⟩⟩⟩⟩⟩⟩⟩⟩⟩⟩⟩⟩⟩
def lw_privs : List (MethodName × Nat) := lw_privs_1 ++ (lw_privs_2)
def lw_tbl : List Cond := k2_sels lw_privs ++ tables_1
theorem lw_privs_ok : ∀ q ∈ lw_privs, lw_okq q := by
  show ∀ q ∈ lw_privs_1 ++ (lw_privs_2), lw_okq q
  exact List.forall_mem_append.mpr ⟨lw_r1, lw_r2⟩
/-- the streams that the claim lets the run draw from -/
abbrev lw_cs : List Choice := [Jvm.Choice.named "NaN.bits"]
theorem lw_bits : nanBits ∈ lw_cs := by first | decide | exact List.mem_cons_self | simp [lw_cs, nanBits]
-- ===== end of PART A; then your names; then what follows =====
end
section
/-! arrays over arrays: the word that travels (named by the printed rows below) -/
def va_AOA (t : FieldType) (U : State) : Prop := (Cond.arrayOver (.array t)).before #[] U = true
theorem va_AOA.use {t : FieldType} {A : Array Value} {U : State} (h : va_AOA t U) : (Cond.arrayOver (.array t)).before A U = true := h
theorem va_AOA.of {t : FieldType} {A : Array Value} {U : State} (h : (Cond.arrayOver (.array t)).before A U = true) : va_AOA t U := h
theorem va_AOA.moved {t : FieldType} {u U : State} (hvm : u.vm.Alike U.vm) (h : va_AOA t u) : va_AOA t U := over_moved hvm h
/-! ===== BEGIN words of one list among another's, by their places ===== -/
theorem goodIn_r {big : List Cond} (ws : List Cond) (ps : List Nat) (hp : ws = ps.filterMap (fun i => big[i]?)) (h : ws.all goodWord = true) : GoodIn big ws := by
  intro w hw
  have h1 := List.all_eq_true.mp h w hw
  rw [hp] at hw
  obtain ⟨i, -, hi⟩ := List.mem_filterMap.mp hw
  have hm : w ∈ big := by first | exact List.mem_of_getElem? hi | exact List.getElem?_mem hi
  exact ⟨hm, good_of_word h1⟩
theorem goodIn_app {big a b : List Cond} (ha : GoodIn big a) (hb : GoodIn big b) : GoodIn big (a ++ b) := fun w h => (List.mem_append.mp h).elim (ha w) (hb w)
theorem goodIn_ca {big a b : List Cond} {c : Cond} (ha : GoodIn big (c :: a)) (hb : GoodIn big b) : GoodIn big (c :: (a ++ b)) := fun w h => (List.mem_cons.mp h).elim (fun e => ha w (List.mem_cons.mpr (Or.inl e))) (fun h => (List.mem_append.mp h).elim (fun h => ha w (List.mem_cons.mpr (Or.inr h))) (hb w))
theorem goodIn_sub {big ws : List Cond} (hm : ∀ w ∈ ws, w ∈ big) (h : ws.all goodWord = true) : GoodIn big ws := fun w hw => ⟨hm w hw, good_of_word (List.all_eq_true.mp h w hw)⟩
/-! ===== END ===== -/

/-! ===== BEGIN new T[n][m]: the outer array a place, the inner ones among the pooled ===== -/
/-- f, but v at every address of l -/
def vr_up {α : Type} (f : Nat → α) (l : List Nat) (v : α) : Nat → α := fun a => if a ∈ l then v else f a
theorem vr_up_in {α : Type} {f : Nat → α} {l : List Nat} {v : α} {a : Nat} (h : a ∈ l) : vr_up f l v a = v := if_pos h
theorem vr_up_ne {α : Type} {f : Nat → α} {l : List Nat} {v : α} {a : Nat} (h : a ∉ l) : vr_up f l v a = f a := if_neg h
theorem vr_rows {L l : List Nat} {f : Nat → va_E} {e : va_E} (h : ∀ a, a ∈ l → a ∉ L) : va_pl L f ++ l.map (fun a => (a, e)) = va_pl (L ++ l) (vr_up f l e) := by
  unfold va_pl
  rw [List.map_append]
  congr 1
  · apply List.map_congr_left
    intro a ha
    rw [vr_up_ne (fun q => h a q ha)]
  · apply List.map_congr_left
    intro a ha
    rw [vr_up_in ha]
theorem vr_lay {X rows : va_W} {x : Nat × va_E} {pl : va_W} {D : va_G} {cl : List vw_C} {H : Heap} (hP : va_P D cl (((X ++ pl) ++ [x]) ++ rows) H) : va_P D cl ((X ++ [x]) ++ (pl ++ rows)) H := by
  rw [List.append_assoc (X ++ pl)] at hP
  have h := va_P.swap hP
  rw [← List.append_assoc X] at h
  have h2 := va_P.swap h
  rw [List.append_assoc (X ++ [x])] at h2
  exact h2
theorem vr_layD {X rows : va_W} {x : Nat × va_E} {pl : va_W} {A : Nat → Prop} (hD : va_D A (((X ++ pl) ++ [x]) ++ rows)) : va_D A ((X ++ [x]) ++ (pl ++ rows)) := by
  rw [List.append_assoc (X ++ pl)] at hD
  have h := va_D.swap hD
  rw [← List.append_assoc X] at h
  have h2 := va_D.swap h
  rw [List.append_assoc (X ++ [x])] at h2
  exact h2
theorem vr_outer (c : ClassId) (N h0 : Nat) : ∀ i : Nat, Jvm.Free.Multi.outerC c N h0 i = arrV c N (fun j => va_rf (if j < i then some (h0 + 1 + j) else none))
  | 0 => by
    show ({ cls := c, slots := Array.replicate N .null, vm := .none } : Cell) = _
    rw [arrV_new]
    refine congrArg (arrV c N) (funext fun j => ?_)
    simp [va_rf]
  | i + 1 => by
    show (Jvm.Free.Multi.outerC c N h0 i).setSlot i (.ref (h0 + 1 + i)) = _
    rw [vr_outer c N h0 i, arrV_store]
    refine congrArg (arrV c N) (funext fun j => ?_)
    by_cases e : j = i
    · subst e
      simp [updV, va_rf]
    · by_cases h : j < i
      · simp [updV, e, h, Nat.lt_succ_of_lt h]
      · simp [updV, e, h, show ¬ j < i + 1 by omega]
section VGM
variable {p : Program} {l : Launch} {e : Env} {R : Room} {s : State} {m : MethodId} {args : Array Value} {below : List Frame} {meth : Method} {c : Code} {H : Heap} {locs : List Loc} {cells slots : Nat} {Q : State → Prop}
variable {cc : ByteArray} {pc : Nat} {ls : Array Slot} {rest : List Value} {D : va_G} {cl : List vw_C} {A : Nat → Prop} {a : Nat} {tys : List (ClassId × FieldType)} {ws : va_W} {H0 : Heap}
theorem va_mna {X : va_W} {L : List Nat} {f : Nat → va_E} {cc : ByteArray} (hexec : p.tables.exec = Jvm.exec) (hb : c.code = cc) {own : String} {index : Nat} {ty : FieldType} {cy : ClassId} (hown : s.vm.findClass own = some m.cls) (hclink : (Cond.classLink own index ("[" ++ (FieldType.array ty).toString)).before args s = true) (hover : va_AOA ty s) (harr : (Cond.arrayClass ty).before args s = true) (hcy : s.vm.findClass (FieldType.array ty).toString = some cy)
    (hK : va_K D cl tys s) (hP : va_P D cl (X ++ va_pl L f) H) (hD : va_D A (X ++ va_pl L f)) (hS : va_S A H0 H locs) (hA : ∀ q, H0.size ≤ q → A q) {n k : Int32} {N' K' : Nat} {z : vp_A} (hn : ¬ n < 0) (hk : ¬ k < 0) (hN : n.toNatClampNeg = N') (hM : k.toNatClampNeg = K')
    (hb1 : N' * 4 ≤ 536870912) (hb2 : K' * componentBytes ty ≤ 536870912) (hb3 : K' ≤ 536870912) (hdf : fits ty (defaultValue ty) = true) (hdd : (defaultValue ty).isDefault = true) (hcells : cells + (1 + N') ≤ R.cells) (hslots : slots + (N' + N' * K') ≤ R.slots) (hz : ∀ c : ClassId, Jvm.Free.Multi.innerC c K' (defaultValue ty) = vp_cell c z) (hdg : decode cc pc = .ok (.multianewarray index 2, 4))
    (kk : ∀ (q : Nat) (r : Nat → Nat) (cA : ClassId) (H1 : Heap), (∀ i j : Nat, i < N' → j < N' → r i = r j → i = j) → (∀ i : Nat, i < N' → r i ∉ L) → va_K D cl (tys ++ [(cA, .array ty)]) s →
      va_P D cl ((X ++ [(q, .inl (cA, N', .inr (.inr (.inr (.inr (fun i => if i < N' then some (r i) else none))))))]) ++ va_pl (L ++ (List.range N').map r) (vr_up f ((List.range N').map r) (.inl (cy, z)))) H1 → va_D A ((X ++ [(q, .inl (cA, N', .inr (.inr (.inr (.inr (fun i => if i < N' then some (r i) else none))))))]) ++ va_pl (L ++ (List.range N').map r) (vr_up f ((List.range N').map r) (.inl (cy, z)))) → va_S A H0 H1 locs →
      W p l e R s m args below meth c H1 locs (cells + 1 + N') (slots + N' + N' * K') Q (F0 m (pc + 4) ls (.ref q :: rest))) : W p l e R s m args below meth c H locs cells slots Q (F0 m pc ls (.int k :: .int n :: rest)) := by
  subst hN
  subst hM
  intro T hT Xs
  obtain ⟨vm₁, cA, comp, -, fA, fC, hO, -, X', step⟩ := Xs.multianewarray2F hexec hown hclink (va_AOA.use hover) harr (g := F0 m pc ls (.int k :: .int n :: rest)) rfl (by rw [hb]; exact hdg) rfl hn hk hb1 hb2 hb3 hdf hdd hcells hslots
  have ec : some cy = some comp := hcy.symm.trans fC
  cases ec
  generalize hF : Jvm.Free.Multi.fill (T.setVm vm₁) cA cy n.toNatClampNeg k.toNatClampNeg (defaultValue ty) n.toNatClampNeg = F at X' step
  have hTh : (T.setVm vm₁).heap = H := hT
  obtain ⟨f1, f2, -, -⟩ := Jvm.Free.Multi.fill_facts (T.setVm vm₁) cA cy n.toNatClampNeg k.toNatClampNeg (defaultValue ty) n.toNatClampNeg
  rw [hF, hTh] at f1 f2
  have hold : ∀ x : Nat, x < H.size → F.heap[x]? = H[x]? := fun x hx => by
    have := Jvm.Free.Multi.fill_old (T.setVm vm₁) cA cy n.toNatClampNeg k.toNatClampNeg (defaultValue ty) (a := x) (by rw [hTh]; exact hx) n.toNatClampNeg
    rw [hF, hTh] at this
    exact this
  have hrow : ∀ j : Nat, j < n.toNatClampNeg → F.heap[H.size + 1 + j]? = some (vp_cell cy z) := fun j hj => by
    have := Jvm.Free.Multi.fill_inner (T.setVm vm₁) cA cy n.toNatClampNeg k.toNatClampNeg (defaultValue ty) n.toNatClampNeg j hj
    rw [hF, hTh, hz] at this
    exact this
  have hout : Jvm.Free.Multi.outerC cA n.toNatClampNeg H.size n.toNatClampNeg = vp_cell cA (n.toNatClampNeg, .inr (.inr (.inr (.inr (fun i => if i < n.toNatClampNeg then some (H.size + 1 + i) else none))))) := by
    rw [vp_cell_q]
    exact vr_outer cA n.toNatClampNeg H.size n.toNatClampNeg
  rw [hout] at f2
  have hlt : ∀ a, a ∈ L → a < H.size := fun a ha => by
    obtain ⟨k9, hk9⟩ := va_pl_get (X := X) (f := f) ha
    exact (hP k9 _ hk9).lt
  have hnl : ∀ i : Nat, i < n.toNatClampNeg → H.size + 1 + i ∉ L := fun i _ h => by
    have := hlt _ h
    omega
  have hnm : ∀ a, a ∈ (List.range n.toNatClampNeg).map (fun i => H.size + 1 + i) → a ∉ L := fun a ha h => by
    obtain ⟨i, -, rfl⟩ := List.mem_map.mp ha
    have := hlt _ h
    omega
  have hP0 : va_P D cl (X ++ va_pl L f) F.heap := hP.kept (fun k9 x hx => hold x.1 ((hP k9 x hx).lt))
  have hP1 : va_P D cl ((X ++ va_pl L f) ++ [(H.size, .inl (cA, n.toNatClampNeg, .inr (.inr (.inr (.inr (fun i => if i < n.toNatClampNeg then some (H.size + 1 + i) else none))))))]) F.heap := hP0.app (fun k9 x hx => by
    have h0 : k9 < 1 := (List.getElem?_eq_some_iff.mp hx).1
    rw [show k9 = 0 by omega] at hx
    cases hx
    exact f2)
  have hP2 : va_P D cl (((X ++ va_pl L f) ++ [(H.size, .inl (cA, n.toNatClampNeg, .inr (.inr (.inr (.inr (fun i => if i < n.toNatClampNeg then some (H.size + 1 + i) else none))))))]) ++ ((List.range n.toNatClampNeg).map (fun i => H.size + 1 + i)).map (fun a => (a, .inl (cy, z)))) F.heap := hP1.app (fun k9 x hx => by
    obtain ⟨a, ha, rfl⟩ := List.mem_map.mp (List.mem_of_getElem? hx)
    obtain ⟨i, hi, rfl⟩ := List.mem_map.mp ha
    exact hrow i (List.mem_range.mp hi))
  have hD2 : va_D A (((X ++ va_pl L f) ++ [(H.size, .inl (cA, n.toNatClampNeg, .inr (.inr (.inr (.inr (fun i => if i < n.toNatClampNeg then some (H.size + 1 + i) else none))))))]) ++ ((List.range n.toNatClampNeg).map (fun i => H.size + 1 + i)).map (fun a => (a, .inl (cy, z)))) := by
    have hD1 := hD.push (e := .inl (cA, n.toNatClampNeg, .inr (.inr (.inr (.inr (fun i => if i < n.toNatClampNeg then some (H.size + 1 + i) else none)))))) hP rfl (hA _ hS.1)
    generalize hW1 : (X ++ va_pl L f) ++ [(H.size, .inl (cA, n.toNatClampNeg, .inr (.inr (.inr (.inr (fun i => if i < n.toNatClampNeg then some (H.size + 1 + i) else none))))))] = W1 at hD1 hP1 ⊢
    have hle : ∀ (k9 : Nat) (x : Nat × va_E), W1[k9]? = some x → x.1 ≤ H.size := fun k9 x hx => by
      rw [← hW1] at hx
      by_cases hl : k9 < (X ++ va_pl L f).length
      · rw [List.getElem?_append_left hl] at hx
        exact Nat.le_of_lt ((hP k9 x hx).lt)
      · rw [List.getElem?_append_right (by omega)] at hx
        have h0 : k9 - (X ++ va_pl L f).length < 1 := (List.getElem?_eq_some_iff.mp hx).1
        rw [show k9 - (X ++ va_pl L f).length = 0 by omega] at hx
        cases hx
        exact Nat.le_refl _
    have hr : ∀ (k9 : Nat) (x : Nat × va_E), (((List.range n.toNatClampNeg).map (fun i => H.size + 1 + i)).map (fun a => ((a, .inl (cy, z)) : Nat × va_E)))[k9]? = some x → x.1 = H.size + 1 + k9 := fun k9 x hx => by
      rw [List.getElem?_map, List.getElem?_map] at hx
      by_cases h9 : k9 < n.toNatClampNeg
      · rw [List.getElem?_range h9] at hx
        cases hx
        rfl
      · have hn0 : (List.range n.toNatClampNeg)[k9]? = none := List.getElem?_eq_none (by rw [List.length_range]; omega)
        rw [hn0] at hx
        cases hx
    refine ⟨fun i j x y hi hj hxy => ?_, fun k9 x hx => ?_⟩
    · by_cases h1 : i < W1.length <;> by_cases h2 : j < W1.length
      · rw [List.getElem?_append_left h1] at hi
        rw [List.getElem?_append_left h2] at hj
        exact hD1.1 i j x y hi hj hxy
      · rw [List.getElem?_append_left h1] at hi
        rw [List.getElem?_append_right (by omega)] at hj
        have := hle _ _ hi
        have := hr _ _ hj
        omega
      · rw [List.getElem?_append_right (by omega)] at hi
        rw [List.getElem?_append_left h2] at hj
        have := hle _ _ hj
        have := hr _ _ hi
        omega
      · rw [List.getElem?_append_right (by omega)] at hi hj
        have := hr _ _ hi
        have := hr _ _ hj
        omega
    · by_cases h1 : k9 < W1.length
      · rw [List.getElem?_append_left h1] at hx
        exact hD1.2 k9 x hx
      · rw [List.getElem?_append_right (by omega)] at hx
        have := hr _ _ hx
        exact hA _ (by have := hS.1; omega)
  have hAr : ArrOfT s cA (.array ty) := fun N9 z9 => by
    obtain ⟨-, k9, hk9, cm9, hkk9⟩ := (hO 0 0 0).1
    exact ⟨(fun q hq => by cases hq), k9, hk9, cm9, hkk9⟩
  have hK2 : va_K D cl (tys ++ [(cA, .array ty)]) s := ⟨hK.1, fun k9 x hx => by
    by_cases hl : k9 < tys.length
    · rw [List.getElem?_append_left hl] at hx
      exact hK.2 k9 x hx
    · rw [List.getElem?_append_right (by omega)] at hx
      have h0 : k9 - tys.length < 1 := (List.getElem?_eq_some_iff.mp hx).1
      rw [show k9 - tys.length = 0 by omega] at hx
      cases hx
      exact ⟨hAr, fA⟩⟩
  obtain ⟨t, a1, b1⟩ := kk H.size (fun i => H.size + 1 + i) cA F.heap (fun i j _ _ h => by have h9 : H.size + 1 + i = H.size + 1 + j := h; omega) hnl hK2 (by rw [← vr_rows hnm]; exact vr_lay hP2) (by rw [← vr_rows hnm]; exact vr_layD hD2) ⟨by rw [f1]; have := hS.1; omega, fun x h1 h2 => (hold x (Nat.lt_of_lt_of_le h1 hS.1)).trans (hS.2.1 x h1 h2), hS.2.2⟩ F rfl X'
  refine ⟨t, step t ?_, b1⟩
  have e : T.heap.size = H.size := by rw [hT]
  rw [e]
  exact a1
end VGM
/-! ===== END ===== -/
end
section
def RX0 : String := "DreamLedger$CoverSearch"
def TX0 : u_T := fun k => match k with
  | 0 => ("DreamLedger$CoverSearch", "dreamsWithTag", "[I", true)
  | _ => ("DreamLedger$CoverSearch", "coverable", "[I", true)
def tyX0 : Nat → FieldType := fun k => match k with
  | 0 => .array .int
  | _ => .array .int
abbrev wsX00 : List Cond := u_ws RX0 TX0 2
theorem nmX0 : ∀ a, a < 2 → ∀ b, b < 2 → a ≠ b → (TX0 a).2.1 ≠ (TX0 b).2.1 := by decide +kernel
theorem tyX0_ok : ∀ k, k < 2 → parseFieldDescriptor (TX0 k).2.2.1 = some (tyX0 k) := by decide +kernel
abbrev cX0_init : ByteArray := prog_2_method_1_code
def yX0_init : MethodName := ⟨RX0, "<init>", "()V"⟩
abbrev cX0_smallestOf : ByteArray := prog_2_method_2_code
def yX0_smallestOf : MethodName := ⟨RX0, "smallestOf", "(I)I"⟩
abbrev cX0_coverFrom : ByteArray := prog_2_method_3_code
def yX0_coverFrom : MethodName := ⟨RX0, "coverFrom", "([I[IIII)I"⟩
def RX1 : String := "DreamLedger$TagTree"
def TX1 : u_T := fun k => match k with
  | 0 => ("DreamLedger$TagTree", "parents", "[I", true)
  | 1 => ("DreamLedger$TagTree", "lines", "[I", true)
  | _ => ("DreamLedger$TagTree", "count", "I", false)
def tyX1 : Nat → FieldType := fun k => match k with
  | 0 => .array .int
  | 1 => .array .int
  | _ => .int
abbrev wsX10 : List Cond := u_ws RX1 TX1 3
theorem nmX1 : ∀ a, a < 3 → ∀ b, b < 3 → a ≠ b → (TX1 a).2.1 ≠ (TX1 b).2.1 := by decide +kernel
theorem tyX1_ok : ∀ k, k < 3 → parseFieldDescriptor (TX1 k).2.2.1 = some (tyX1 k) := by decide +kernel
abbrev cX1_init : ByteArray := prog_3_method_1_code
def yX1_init : MethodName := ⟨RX1, "<init>", "()V"⟩
abbrev cX1_grow : ByteArray := prog_3_method_2_code
def yX1_grow : MethodName := ⟨RX1, "grow", "()I"⟩
abbrev cX1_hang : ByteArray := prog_3_method_3_code
def yX1_hang : MethodName := ⟨RX1, "hang", "(II)V"⟩
abbrev cX1_lineFrom : ByteArray := prog_3_method_4_code
def yX1_lineFrom : MethodName := ⟨RX1, "lineFrom", "(I)I"⟩
abbrev cX1_linesOf : ByteArray := prog_3_method_5_code
def yX1_linesOf : MethodName := ⟨RX1, "linesOf", "(I)I"⟩
abbrev cX1_standsBelow : ByteArray := prog_3_method_6_code
def yX1_standsBelow : MethodName := ⟨RX1, "standsBelow", "(II)Z"⟩
abbrev cX1_canHang : ByteArray := prog_3_method_7_code
def yX1_canHang : MethodName := ⟨RX1, "canHang", "(II)Z"⟩
abbrev cX1_countAbove : ByteArray := prog_3_method_8_code
def yX1_countAbove : MethodName := ⟨RX1, "countAbove", "(I)I"⟩
abbrev cX1_countBelow : ByteArray := prog_3_method_9_code
def yX1_countBelow : MethodName := ⟨RX1, "countBelow", "(I)I"⟩
abbrev cX1_lowestOf : ByteArray := prog_3_method_10_code
def yX1_lowestOf : MethodName := ⟨RX1, "lowestOf", "(I)I"⟩
def RX2 : String := "DreamLedger$TermList"
def TX2 : u_T := fun k => match k with
  | 0 => ("DreamLedger$TermList", "kinds", "[I", true)
  | 1 => ("DreamLedger$TermList", "firsts", "[I", true)
  | 2 => ("DreamLedger$TermList", "seconds", "[I", true)
  | 3 => ("DreamLedger$TermList", "matched", "[I", true)
  | _ => ("DreamLedger$TermList", "count", "I", false)
def tyX2 : Nat → FieldType := fun k => match k with
  | 0 => .array .int
  | 1 => .array .int
  | 2 => .array .int
  | 3 => .array .int
  | _ => .int
abbrev wsX20 : List Cond := u_ws RX2 TX2 5
theorem nmX2 : ∀ a, a < 5 → ∀ b, b < 5 → a ≠ b → (TX2 a).2.1 ≠ (TX2 b).2.1 := by decide +kernel
theorem tyX2_ok : ∀ k, k < 5 → parseFieldDescriptor (TX2 k).2.2.1 = some (tyX2 k) := by decide +kernel
abbrev cX2_init : ByteArray := prog_4_method_1_code
def yX2_init : MethodName := ⟨RX2, "<init>", "()V"⟩
abbrev cX2_add : ByteArray := prog_4_method_2_code
def yX2_add : MethodName := ⟨RX2, "add", "(III)I"⟩
abbrev cX2_combine : ByteArray := prog_4_method_3_code
def yX2_combine : MethodName := ⟨RX2, "combine", "(II)V"⟩
abbrev cX2_matchedAhead : ByteArray := prog_4_method_4_code
def yX2_matchedAhead : MethodName := ⟨RX2, "matchedAhead", "(II)I"⟩
def RX3 : String := "DreamLedger"
def TX3 : u_T := fun k => match k with
  | 0 => ("DreamLedger", "tagTree", "LDreamLedger$TagTree;", true)
  | 1 => ("DreamLedger", "termList", "LDreamLedger$TermList;", true)
  | 2 => ("DreamLedger", "coverSearch", "LDreamLedger$CoverSearch;", true)
  | 3 => ("DreamLedger", "ownTags", "[I", true)
  | 4 => ("DreamLedger", "tagSets", "[I", true)
  | 5 => ("DreamLedger", "vividnesses", "[I", true)
  | 6 => ("DreamLedger", "writtenIn", "[I", true)
  | 7 => ("DreamLedger", "dreamCount", "I", false)
  | _ => ("DreamLedger", "nightCount", "I", false)
def tyX3 : Nat → FieldType := fun k => match k with
  | 0 => .object "DreamLedger$TagTree"
  | 1 => .object "DreamLedger$TermList"
  | 2 => .object "DreamLedger$CoverSearch"
  | 3 => .array .int
  | 4 => .array .int
  | 5 => .array .int
  | 6 => .array .int
  | 7 => .int
  | _ => .int
abbrev wsX30 : List Cond := u_ws RX3 TX3 9
theorem nmX3 : ∀ a, a < 9 → ∀ b, b < 9 → a ≠ b → (TX3 a).2.1 ≠ (TX3 b).2.1 := by decide +kernel
theorem tyX3_ok : ∀ k, k < 9 → parseFieldDescriptor (TX3 k).2.2.1 = some (tyX3 k) := by decide +kernel
abbrev cX3_init : ByteArray := prog_1_method_1_code
def yX3_init : MethodName := ⟨RX3, "<init>", "()V"⟩
abbrev cX3_addTag : ByteArray := prog_1_method_2_code
def yX3_addTag : MethodName := ⟨RX3, "addTag", "()I"⟩
abbrev cX3_putUnder : ByteArray := prog_1_method_3_code
def yX3_putUnder : MethodName := ⟨RX3, "putUnder", "(II)I"⟩
abbrev cX3_freeTag : ByteArray := prog_1_method_4_code
def yX3_freeTag : MethodName := ⟨RX3, "freeTag", "(I)I"⟩
abbrev cX3_addDream : ByteArray := prog_1_method_5_code
def yX3_addDream : MethodName := ⟨RX3, "addDream", "(II)I"⟩
abbrev cX3_tagDream : ByteArray := prog_1_method_6_code
def yX3_tagDream : MethodName := ⟨RX3, "tagDream", "(II)I"⟩
abbrev cX3_untagDream : ByteArray := prog_1_method_7_code
def yX3_untagDream : MethodName := ⟨RX3, "untagDream", "(II)I"⟩
abbrev cX3_recall : ByteArray := prog_1_method_8_code
def yX3_recall : MethodName := ⟨RX3, "recall", "(II)I"⟩
abbrev cX3_passNights : ByteArray := prog_1_method_9_code
def yX3_passNights : MethodName := ⟨RX3, "passNights", "(I)I"⟩
abbrev cX3_addTagTerm : ByteArray := prog_1_method_10_code
def yX3_addTagTerm : MethodName := ⟨RX3, "addTagTerm", "(I)I"⟩
abbrev cX3_addBothTerm : ByteArray := prog_1_method_11_code
def yX3_addBothTerm : MethodName := ⟨RX3, "addBothTerm", "(II)I"⟩
abbrev cX3_addEitherTerm : ByteArray := prog_1_method_12_code
def yX3_addEitherTerm : MethodName := ⟨RX3, "addEitherTerm", "(II)I"⟩
abbrev cX3_addWithoutTerm : ByteArray := prog_1_method_13_code
def yX3_addWithoutTerm : MethodName := ⟨RX3, "addWithoutTerm", "(I)I"⟩
abbrev cX3_clearTerms : ByteArray := prog_1_method_14_code
def yX3_clearTerms : MethodName := ⟨RX3, "clearTerms", "()I"⟩
abbrev cX3_hasParent : ByteArray := prog_1_method_15_code
def yX3_hasParent : MethodName := ⟨RX3, "hasParent", "(I)Z"⟩
abbrev cX3_parentOf : ByteArray := prog_1_method_16_code
def yX3_parentOf : MethodName := ⟨RX3, "parentOf", "(I)I"⟩
abbrev cX3_tagsAbove : ByteArray := prog_1_method_17_code
def yX3_tagsAbove : MethodName := ⟨RX3, "tagsAbove", "(I)I"⟩
abbrev cX3_tagsBelow : ByteArray := prog_1_method_18_code
def yX3_tagsBelow : MethodName := ⟨RX3, "tagsBelow", "(I)I"⟩
abbrev cX3_isBelow : ByteArray := prog_1_method_19_code
def yX3_isBelow : MethodName := ⟨RX3, "isBelow", "(II)Z"⟩
abbrev cX3_nearestAbove : ByteArray := prog_1_method_20_code
def yX3_nearestAbove : MethodName := ⟨RX3, "nearestAbove", "(II)I"⟩
abbrev cX3_dreamsWith : ByteArray := prog_1_method_21_code
def yX3_dreamsWith : MethodName := ⟨RX3, "dreamsWith", "(I)I"⟩
abbrev cX3_hasOwnTag : ByteArray := prog_1_method_22_code
def yX3_hasOwnTag : MethodName := ⟨RX3, "hasOwnTag", "(II)Z"⟩
abbrev cX3_hasTag : ByteArray := prog_1_method_23_code
def yX3_hasTag : MethodName := ⟨RX3, "hasTag", "(II)Z"⟩
abbrev cX3_tagsOf : ByteArray := prog_1_method_24_code
def yX3_tagsOf : MethodName := ⟨RX3, "tagsOf", "(I)I"⟩
abbrev cX3_vividnessOf : ByteArray := prog_1_method_25_code
def yX3_vividnessOf : MethodName := ⟨RX3, "vividnessOf", "(I)I"⟩
abbrev cX3_nightOf : ByteArray := prog_1_method_26_code
def yX3_nightOf : MethodName := ⟨RX3, "nightOf", "(I)I"⟩
abbrev cX3_matches : ByteArray := prog_1_method_27_code
def yX3_matches : MethodName := ⟨RX3, "matches", "(II)Z"⟩
abbrev cX3_matchesOf : ByteArray := prog_1_method_28_code
def yX3_matchesOf : MethodName := ⟨RX3, "matchesOf", "(I)I"⟩
abbrev cX3_commonTags : ByteArray := prog_1_method_30_code
def yX3_commonTags : MethodName := ⟨RX3, "commonTags", "(I)I"⟩
abbrev cX3_matchSame : ByteArray := prog_1_method_31_code
def yX3_matchSame : MethodName := ⟨RX3, "matchSame", "(II)Z"⟩
abbrev cX3_coverSize : ByteArray := prog_1_method_32_code
def yX3_coverSize : MethodName := ⟨RX3, "coverSize", "(I)I"⟩
abbrev cX3_tags : ByteArray := prog_1_method_34_code
def yX3_tags : MethodName := ⟨RX3, "tags", "()I"⟩
abbrev cX3_dreams : ByteArray := prog_1_method_35_code
def yX3_dreams : MethodName := ⟨RX3, "dreams", "()I"⟩
abbrev cX3_terms : ByteArray := prog_1_method_36_code
def yX3_terms : MethodName := ⟨RX3, "terms", "()I"⟩
abbrev cX3_nights : ByteArray := prog_1_method_37_code
def yX3_nights : MethodName := ⟨RX3, "nights", "()I"⟩
abbrev cX3_fadedDreams : ByteArray := prog_1_method_38_code
def yX3_fadedDreams : MethodName := ⟨RX3, "fadedDreams", "()I"⟩
abbrev cX3_meanVividness : ByteArray := prog_1_method_42_code
def yX3_meanVividness : MethodName := ⟨RX3, "meanVividness", "()D"⟩
abbrev cX3_requireTag : ByteArray := prog_1_method_44_code
def yX3_requireTag : MethodName := ⟨RX3, "requireTag", "(I)V"⟩
abbrev cX3_requireDream : ByteArray := prog_1_method_45_code
def yX3_requireDream : MethodName := ⟨RX3, "requireDream", "(I)V"⟩
abbrev cX3_requireTerm : ByteArray := prog_1_method_46_code
def yX3_requireTerm : MethodName := ⟨RX3, "requireTerm", "(I)V"⟩
abbrev cX3_requireParent : ByteArray := prog_1_method_47_code
def yX3_requireParent : MethodName := ⟨RX3, "requireParent", "(I)V"⟩
abbrev cX3_requirePlaceUnder : ByteArray := prog_1_method_48_code
def yX3_requirePlaceUnder : MethodName := ⟨RX3, "requirePlaceUnder", "(II)V"⟩
abbrev cX3_requireNights : ByteArray := prog_1_method_49_code
def yX3_requireNights : MethodName := ⟨RX3, "requireNights", "(I)V"⟩
abbrev cX3_requireRoomForTerm : ByteArray := prog_1_method_50_code
def yX3_requireRoomForTerm : MethodName := ⟨RX3, "requireRoomForTerm", "()V"⟩
abbrev cX3_moveTag : ByteArray := prog_1_method_51_code
def yX3_moveTag : MethodName := ⟨RX3, "moveTag", "(II)V"⟩
abbrev cX3_setOwnTags : ByteArray := prog_1_method_52_code
def yX3_setOwnTags : MethodName := ⟨RX3, "setOwnTags", "(II)V"⟩
abbrev cX3_addTerm : ByteArray := prog_1_method_53_code
def yX3_addTerm : MethodName := ⟨RX3, "addTerm", "(III)I"⟩
abbrev cX3_rematchTerms : ByteArray := prog_1_method_54_code
def yX3_rematchTerms : MethodName := ⟨RX3, "rematchTerms", "()V"⟩
abbrev cX3_allDreams : ByteArray := prog_1_method_55_code
def yX3_allDreams : MethodName := ⟨RX3, "allDreams", "()I"⟩
abbrev cX3_dreamsHaving : ByteArray := prog_1_method_56_code
def yX3_dreamsHaving : MethodName := ⟨RX3, "dreamsHaving", "(I)I"⟩
abbrev cX3_vividnessAfter : ByteArray := prog_1_method_57_code
def yX3_vividnessAfter : MethodName := ⟨RX3, "vividnessAfter", "(II)I"⟩
abbrev cX3_ownTagsOfLatest : ByteArray := prog_1_method_58_code
def yX3_ownTagsOfLatest : MethodName := ⟨RX3, "ownTagsOfLatest", "()I"⟩
abbrev cX3_countFadedAfter : ByteArray := prog_1_method_59_code
def yX3_countFadedAfter : MethodName := ⟨RX3, "countFadedAfter", "(I)I"⟩
abbrev cX3_tagsSharedBy : ByteArray := prog_1_method_61_code
def yX3_tagsSharedBy : MethodName := ⟨RX3, "tagsSharedBy", "(I)I"⟩
abbrev cX3_smallestCover : ByteArray := prog_1_method_62_code
def yX3_smallestCover : MethodName := ⟨RX3, "smallestCover", "(I)I"⟩
abbrev cX3_isIn : ByteArray := prog_1_method_69_code
def yX3_isIn : MethodName := ⟨RX3, "isIn", "(II)Z"⟩
def RX4 : String := "DreamLedgerLaw$Sim"
def TX4 : u_T := fun k => match k with
  | 0 => ("DreamLedgerLaw$Sim", "tags", "I", false)
  | 1 => ("DreamLedgerLaw$Sim", "dreams", "I", false)
  | 2 => ("DreamLedgerLaw$Sim", "terms", "I", false)
  | 3 => ("DreamLedgerLaw$Sim", "nights", "I", false)
  | 4 => ("DreamLedgerLaw$Sim", "parent", "[I", true)
  | 5 => ("DreamLedgerLaw$Sim", "own", "[[Z", true)
  | 6 => ("DreamLedgerLaw$Sim", "vivid", "[I", true)
  | 7 => ("DreamLedgerLaw$Sim", "night", "[I", true)
  | _ => ("DreamLedgerLaw$Sim", "term", "[[I", true)
def tyX4 : Nat → FieldType := fun k => match k with
  | 0 => .int
  | 1 => .int
  | 2 => .int
  | 3 => .int
  | 4 => .array .int
  | 5 => .array (.array .boolean)
  | 6 => .array .int
  | 7 => .array .int
  | _ => .array (.array .int)
abbrev wsX40 : List Cond := u_ws RX4 TX4 9
theorem nmX4 : ∀ a, a < 9 → ∀ b, b < 9 → a ≠ b → (TX4 a).2.1 ≠ (TX4 b).2.1 := by decide +kernel
theorem tyX4_ok : ∀ k, k < 9 → parseFieldDescriptor (TX4 k).2.2.1 = some (tyX4 k) := by decide +kernel
abbrev cX4_init : ByteArray := prog_6_method_1_code
def yX4_init : MethodName := ⟨RX4, "<init>", "()V"⟩
abbrev cX4_isBelow : ByteArray := prog_6_method_2_code
def yX4_isBelow : MethodName := ⟨RX4, "isBelow", "(II)Z"⟩
abbrev cX4_hasTag : ByteArray := prog_6_method_3_code
def yX4_hasTag : MethodName := ⟨RX4, "hasTag", "(II)Z"⟩
abbrev cX4_ownTags : ByteArray := prog_6_method_4_code
def yX4_ownTags : MethodName := ⟨RX4, "ownTags", "(I)I"⟩
abbrev cX4_matches : ByteArray := prog_6_method_5_code
def yX4_matches : MethodName := ⟨RX4, "matches", "()[[Z"⟩
abbrev cX4_later : ByteArray := prog_6_method_7_code
def yX4_later : MethodName := ⟨RX4, "later", "(II)I"⟩
abbrev cX4_faded : ByteArray := prog_6_method_8_code
def yX4_faded : MethodName := ⟨RX4, "faded", "(I)I"⟩
abbrev cX4_isSame : ByteArray := prog_6_method_10_code
def yX4_isSame : MethodName := ⟨RX4, "isSame", "(LDreamLedger;)Z"⟩
def RX5 : String := "DreamLedgerModel"
def TX5 : u_T := fun k => match k with
  | _ => ("", "", "", false)
def tyX5 : Nat → FieldType := fun k => match k with
  | _ => .int
abbrev wsX50 : List Cond := u_ws RX5 TX5 0
theorem nmX5 : ∀ a, a < 0 → ∀ b, b < 0 → a ≠ b → (TX5 a).2.1 ≠ (TX5 b).2.1 := by decide +kernel
theorem tyX5_ok : ∀ k, k < 0 → parseFieldDescriptor (TX5 k).2.2.1 = some (tyX5 k) := by decide +kernel
def RJ6 : String := "java/lang/Integer"
def TJ6 : u_T := fun k => match k with
  | _ => ("", "", "", false)
def tyJ6 : Nat → FieldType := fun k => match k with
  | _ => .int
abbrev wsJ60 : List Cond := u_ws RJ6 TJ6 0
theorem nmJ6 : ∀ a, a < 0 → ∀ b, b < 0 → a ≠ b → (TJ6 a).2.1 ≠ (TJ6 b).2.1 := by decide +kernel
theorem tyJ6_ok : ∀ k, k < 0 → parseFieldDescriptor (TJ6 k).2.2.1 = some (tyJ6 k) := by decide +kernel
abbrev cJ6_bitCount_0f7a4 : ByteArray := prog_12_method_49_code
def yJ6_bitCount_0f7a4 : MethodName := ⟨RJ6, "bitCount", "(I)I"⟩
def RJ9 : String := "java/lang/Math"
def TJ9 : u_T := fun k => match k with
  | _ => ("", "", "", false)
def tyJ9 : Nat → FieldType := fun k => match k with
  | _ => .int
abbrev wsJ90 : List Cond := u_ws RJ9 TJ9 0
theorem nmJ9 : ∀ a, a < 0 → ∀ b, b < 0 → a ≠ b → (TJ9 a).2.1 ≠ (TJ9 b).2.1 := by decide +kernel
theorem tyJ9_ok : ∀ k, k < 0 → parseFieldDescriptor (TJ9 k).2.2.1 = some (tyJ9 k) := by decide +kernel
abbrev cJ9_max_7cf53 : ByteArray := prog_13_method_65_code
def yJ9_max_7cf53 : MethodName := ⟨RJ9, "max", "(II)I"⟩
def RJ0 : String := "java/lang/String"
def TJ0 : u_T := fun k => match k with
  | _ => ("", "", "", false)
def tyJ0 : Nat → FieldType := fun k => match k with
  | _ => .int
abbrev wsJ00 : List Cond := u_ws RJ0 TJ0 0
theorem nmJ0 : ∀ a, a < 0 → ∀ b, b < 0 → a ≠ b → (TJ0 a).2.1 ≠ (TJ0 b).2.1 := by decide +kernel
theorem tyJ0_ok : ∀ k, k < 0 → parseFieldDescriptor (TJ0 k).2.2.1 = some (tyJ0 k) := by decide +kernel
def RL : String := "DreamLedgerLaw"
abbrev cL_below : ByteArray := method_2_code
def yL_below : MethodName := ⟨RL, "below", "(II)I"⟩
abbrev cL_cell : ByteArray := method_3_code
def yL_cell : MethodName := ⟨RL, "cell", "([II)I"⟩
abbrev cL_act : ByteArray := method_4_code
def yL_act : MethodName := ⟨RL, "act", "(LDreamLedger;LDreamLedgerLaw$Sim;I)Z"⟩
abbrev cL_build : ByteArray := method_5_code
def yL_build : MethodName := ⟨RL, "build", "(LDreamLedger;[I)LDreamLedgerLaw$Sim;"⟩
abbrev cL_law : ByteArray := code
def yL_law : MethodName := ⟨RL, "law", "([I)Z"⟩
abbrev vwCl : List vw_C := [(RX0, TX0, 2), (RX1, TX1, 3), (RX2, TX2, 5), (RX3, TX3, 9), (RX4, TX4, 9)]
end
section
theorem dX0_init_0 : decode cX0_init 0 = .ok (.aload_n 0, 1) := by decide +kernel
theorem dX0_init_1 : decode cX0_init 1 = .ok (.invokespecial 3, 3) := by decide +kernel
theorem dX0_init_4 : decode cX0_init 4 = .ok (.aload_n 0, 1) := by decide +kernel
theorem dX0_init_5 : decode cX0_init 5 = .ok (.bipush 16, 2) := by decide +kernel
theorem dX0_init_7 : decode cX0_init 7 = .ok (.newarray .int, 2) := by decide +kernel
theorem dX0_init_9 : decode cX0_init 9 = .ok (.putfield 9, 3) := by decide +kernel
theorem dX0_init_12 : decode cX0_init 12 = .ok (.aload_n 0, 1) := by decide +kernel
theorem dX0_init_13 : decode cX0_init 13 = .ok (.bipush 17, 2) := by decide +kernel
theorem dX0_init_15 : decode cX0_init 15 = .ok (.newarray .int, 2) := by decide +kernel
theorem dX0_init_17 : decode cX0_init 17 = .ok (.putfield 15, 3) := by decide +kernel
theorem dX0_init_20 : decode cX0_init 20 = .ok (.return_, 1) := by decide +kernel
theorem dX0_smallestOf_0 : decode cX0_smallestOf 0 = .ok (.bipush 15, 2) := by decide +kernel
theorem dX0_smallestOf_2 : decode cX0_smallestOf 2 = .ok (.istore_n 2, 1) := by decide +kernel
theorem dX0_smallestOf_3 : decode cX0_smallestOf 3 = .ok (.iload_n 2, 1) := by decide +kernel
theorem dX0_smallestOf_4 : decode cX0_smallestOf 4 = .ok (.ifCond .lt 30, 3) := by decide +kernel
theorem dX0_smallestOf_7 : decode cX0_smallestOf 7 = .ok (.aload_n 0, 1) := by decide +kernel
theorem dX0_smallestOf_8 : decode cX0_smallestOf 8 = .ok (.getfield 15, 3) := by decide +kernel
theorem dX0_smallestOf_11 : decode cX0_smallestOf 11 = .ok (.iload_n 2, 1) := by decide +kernel
theorem dX0_smallestOf_12 : decode cX0_smallestOf 12 = .ok (.aload_n 0, 1) := by decide +kernel
theorem dX0_smallestOf_13 : decode cX0_smallestOf 13 = .ok (.getfield 15, 3) := by decide +kernel
theorem dX0_smallestOf_16 : decode cX0_smallestOf 16 = .ok (.iload_n 2, 1) := by decide +kernel
theorem dX0_smallestOf_17 : decode cX0_smallestOf 17 = .ok (.iconst 1, 1) := by decide +kernel
theorem dX0_smallestOf_18 : decode cX0_smallestOf 18 = .ok (.iadd, 1) := by decide +kernel
theorem dX0_smallestOf_19 : decode cX0_smallestOf 19 = .ok (.iaload, 1) := by decide +kernel
theorem dX0_smallestOf_20 : decode cX0_smallestOf 20 = .ok (.aload_n 0, 1) := by decide +kernel
theorem dX0_smallestOf_21 : decode cX0_smallestOf 21 = .ok (.getfield 9, 3) := by decide +kernel
theorem dX0_smallestOf_24 : decode cX0_smallestOf 24 = .ok (.iload_n 2, 1) := by decide +kernel
theorem dX0_smallestOf_25 : decode cX0_smallestOf 25 = .ok (.iaload, 1) := by decide +kernel
theorem dX0_smallestOf_26 : decode cX0_smallestOf 26 = .ok (.ior, 1) := by decide +kernel
theorem dX0_smallestOf_27 : decode cX0_smallestOf 27 = .ok (.iastore, 1) := by decide +kernel
theorem dX0_smallestOf_28 : decode cX0_smallestOf 28 = .ok (.iinc 2 (-1), 3) := by decide +kernel
theorem dX0_smallestOf_31 : decode cX0_smallestOf 31 = .ok (.goto (-28), 3) := by decide +kernel
theorem dX0_smallestOf_34 : decode cX0_smallestOf 34 = .ok (.iconst 0, 1) := by decide +kernel
theorem dX0_smallestOf_35 : decode cX0_smallestOf 35 = .ok (.istore_n 2, 1) := by decide +kernel
theorem dX0_smallestOf_36 : decode cX0_smallestOf 36 = .ok (.iload_n 2, 1) := by decide +kernel
theorem dX0_smallestOf_37 : decode cX0_smallestOf 37 = .ok (.bipush 16, 2) := by decide +kernel
theorem dX0_smallestOf_39 : decode cX0_smallestOf 39 = .ok (.if_icmp .gt 31, 3) := by decide +kernel
theorem dX0_smallestOf_42 : decode cX0_smallestOf 42 = .ok (.aload_n 0, 1) := by decide +kernel
theorem dX0_smallestOf_43 : decode cX0_smallestOf 43 = .ok (.getfield 9, 3) := by decide +kernel
theorem dX0_smallestOf_46 : decode cX0_smallestOf 46 = .ok (.aload_n 0, 1) := by decide +kernel
theorem dX0_smallestOf_47 : decode cX0_smallestOf 47 = .ok (.getfield 15, 3) := by decide +kernel
theorem dX0_smallestOf_50 : decode cX0_smallestOf 50 = .ok (.iconst 0, 1) := by decide +kernel
theorem dX0_smallestOf_51 : decode cX0_smallestOf 51 = .ok (.iload_n 2, 1) := by decide +kernel
theorem dX0_smallestOf_52 : decode cX0_smallestOf 52 = .ok (.iload_n 1, 1) := by decide +kernel
theorem dX0_smallestOf_53 : decode cX0_smallestOf 53 = .ok (.invokestatic 18, 3) := by decide +kernel
theorem dX0_smallestOf_56 : decode cX0_smallestOf 56 = .ok (.istore_n 3, 1) := by decide +kernel
theorem dX0_smallestOf_57 : decode cX0_smallestOf 57 = .ok (.iload_n 3, 1) := by decide +kernel
theorem dX0_smallestOf_58 : decode cX0_smallestOf 58 = .ok (.iconst (-1), 1) := by decide +kernel
theorem dX0_smallestOf_59 : decode cX0_smallestOf 59 = .ok (.if_icmp .eq 5, 3) := by decide +kernel
theorem dX0_smallestOf_62 : decode cX0_smallestOf 62 = .ok (.iload_n 3, 1) := by decide +kernel
theorem dX0_smallestOf_63 : decode cX0_smallestOf 63 = .ok (.ireturn, 1) := by decide +kernel
theorem dX0_smallestOf_64 : decode cX0_smallestOf 64 = .ok (.iinc 2 1, 3) := by decide +kernel
theorem dX0_smallestOf_67 : decode cX0_smallestOf 67 = .ok (.goto (-31), 3) := by decide +kernel
theorem dX0_smallestOf_70 : decode cX0_smallestOf 70 = .ok (.iconst 0, 1) := by decide +kernel
theorem dX0_smallestOf_71 : decode cX0_smallestOf 71 = .ok (.ireturn, 1) := by decide +kernel
theorem dX0_coverFrom_0 : decode cX0_coverFrom 0 = .ok (.iload 4, 2) := by decide +kernel
theorem dX0_coverFrom_2 : decode cX0_coverFrom 2 = .ok (.ifCond .ne 5, 3) := by decide +kernel
theorem dX0_coverFrom_5 : decode cX0_coverFrom 5 = .ok (.iconst 0, 1) := by decide +kernel
theorem dX0_coverFrom_6 : decode cX0_coverFrom 6 = .ok (.ireturn, 1) := by decide +kernel
theorem dX0_coverFrom_7 : decode cX0_coverFrom 7 = .ok (.iload_n 3, 1) := by decide +kernel
theorem dX0_coverFrom_8 : decode cX0_coverFrom 8 = .ok (.ifCond .le 24, 3) := by decide +kernel
theorem dX0_coverFrom_11 : decode cX0_coverFrom 11 = .ok (.iload_n 2, 1) := by decide +kernel
theorem dX0_coverFrom_12 : decode cX0_coverFrom 12 = .ok (.ifCond .lt 20, 3) := by decide +kernel
theorem dX0_coverFrom_15 : decode cX0_coverFrom 15 = .ok (.iload_n 2, 1) := by decide +kernel
theorem dX0_coverFrom_16 : decode cX0_coverFrom 16 = .ok (.bipush 16, 2) := by decide +kernel
theorem dX0_coverFrom_18 : decode cX0_coverFrom 18 = .ok (.if_icmp .ge 14, 3) := by decide +kernel
theorem dX0_coverFrom_21 : decode cX0_coverFrom 21 = .ok (.iload 4, 2) := by decide +kernel
theorem dX0_coverFrom_23 : decode cX0_coverFrom 23 = .ok (.aload_n 1, 1) := by decide +kernel
theorem dX0_coverFrom_24 : decode cX0_coverFrom 24 = .ok (.iload_n 2, 1) := by decide +kernel
theorem dX0_coverFrom_25 : decode cX0_coverFrom 25 = .ok (.iaload, 1) := by decide +kernel
theorem dX0_coverFrom_26 : decode cX0_coverFrom 26 = .ok (.iconst (-1), 1) := by decide +kernel
theorem dX0_coverFrom_27 : decode cX0_coverFrom 27 = .ok (.ixor, 1) := by decide +kernel
theorem dX0_coverFrom_28 : decode cX0_coverFrom 28 = .ok (.iand, 1) := by decide +kernel
theorem dX0_coverFrom_29 : decode cX0_coverFrom 29 = .ok (.ifCond .eq 5, 3) := by decide +kernel
theorem dX0_coverFrom_32 : decode cX0_coverFrom 32 = .ok (.iconst (-1), 1) := by decide +kernel
theorem dX0_coverFrom_33 : decode cX0_coverFrom 33 = .ok (.ireturn, 1) := by decide +kernel
theorem dX0_coverFrom_34 : decode cX0_coverFrom 34 = .ok (.iload 4, 2) := by decide +kernel
theorem dX0_coverFrom_36 : decode cX0_coverFrom 36 = .ok (.aload_n 0, 1) := by decide +kernel
theorem dX0_coverFrom_37 : decode cX0_coverFrom 37 = .ok (.iload_n 2, 1) := by decide +kernel
theorem dX0_coverFrom_38 : decode cX0_coverFrom 38 = .ok (.iaload, 1) := by decide +kernel
theorem dX0_coverFrom_39 : decode cX0_coverFrom 39 = .ok (.iand, 1) := by decide +kernel
theorem dX0_coverFrom_40 : decode cX0_coverFrom 40 = .ok (.ifCond .eq 41, 3) := by decide +kernel
theorem dX0_coverFrom_43 : decode cX0_coverFrom 43 = .ok (.iload 4, 2) := by decide +kernel
theorem dX0_coverFrom_45 : decode cX0_coverFrom 45 = .ok (.aload_n 0, 1) := by decide +kernel
theorem dX0_coverFrom_46 : decode cX0_coverFrom 46 = .ok (.iload_n 2, 1) := by decide +kernel
theorem dX0_coverFrom_47 : decode cX0_coverFrom 47 = .ok (.iaload, 1) := by decide +kernel
theorem dX0_coverFrom_48 : decode cX0_coverFrom 48 = .ok (.iconst (-1), 1) := by decide +kernel
theorem dX0_coverFrom_49 : decode cX0_coverFrom 49 = .ok (.ixor, 1) := by decide +kernel
theorem dX0_coverFrom_50 : decode cX0_coverFrom 50 = .ok (.iand, 1) := by decide +kernel
theorem dX0_coverFrom_51 : decode cX0_coverFrom 51 = .ok (.istore 5, 2) := by decide +kernel
theorem dX0_coverFrom_53 : decode cX0_coverFrom 53 = .ok (.aload_n 0, 1) := by decide +kernel
theorem dX0_coverFrom_54 : decode cX0_coverFrom 54 = .ok (.aload_n 1, 1) := by decide +kernel
theorem dX0_coverFrom_55 : decode cX0_coverFrom 55 = .ok (.iload_n 2, 1) := by decide +kernel
theorem dX0_coverFrom_56 : decode cX0_coverFrom 56 = .ok (.iconst 1, 1) := by decide +kernel
theorem dX0_coverFrom_57 : decode cX0_coverFrom 57 = .ok (.iadd, 1) := by decide +kernel
theorem dX0_coverFrom_58 : decode cX0_coverFrom 58 = .ok (.iload_n 3, 1) := by decide +kernel
theorem dX0_coverFrom_59 : decode cX0_coverFrom 59 = .ok (.iconst 1, 1) := by decide +kernel
theorem dX0_coverFrom_60 : decode cX0_coverFrom 60 = .ok (.isub, 1) := by decide +kernel
theorem dX0_coverFrom_61 : decode cX0_coverFrom 61 = .ok (.iload 5, 2) := by decide +kernel
theorem dX0_coverFrom_63 : decode cX0_coverFrom 63 = .ok (.invokestatic 18, 3) := by decide +kernel
theorem dX0_coverFrom_66 : decode cX0_coverFrom 66 = .ok (.istore 6, 2) := by decide +kernel
theorem dX0_coverFrom_68 : decode cX0_coverFrom 68 = .ok (.iload 6, 2) := by decide +kernel
theorem dX0_coverFrom_70 : decode cX0_coverFrom 70 = .ok (.iconst (-1), 1) := by decide +kernel
theorem dX0_coverFrom_71 : decode cX0_coverFrom 71 = .ok (.if_icmp .eq 10, 3) := by decide +kernel
theorem dX0_coverFrom_74 : decode cX0_coverFrom 74 = .ok (.iload 6, 2) := by decide +kernel
theorem dX0_coverFrom_76 : decode cX0_coverFrom 76 = .ok (.iconst 1, 1) := by decide +kernel
theorem dX0_coverFrom_77 : decode cX0_coverFrom 77 = .ok (.iload_n 2, 1) := by decide +kernel
theorem dX0_coverFrom_78 : decode cX0_coverFrom 78 = .ok (.ishl, 1) := by decide +kernel
theorem dX0_coverFrom_79 : decode cX0_coverFrom 79 = .ok (.ior, 1) := by decide +kernel
theorem dX0_coverFrom_80 : decode cX0_coverFrom 80 = .ok (.ireturn, 1) := by decide +kernel
theorem dX0_coverFrom_81 : decode cX0_coverFrom 81 = .ok (.aload_n 0, 1) := by decide +kernel
theorem dX0_coverFrom_82 : decode cX0_coverFrom 82 = .ok (.aload_n 1, 1) := by decide +kernel
theorem dX0_coverFrom_83 : decode cX0_coverFrom 83 = .ok (.iload_n 2, 1) := by decide +kernel
theorem dX0_coverFrom_84 : decode cX0_coverFrom 84 = .ok (.iconst 1, 1) := by decide +kernel
theorem dX0_coverFrom_85 : decode cX0_coverFrom 85 = .ok (.iadd, 1) := by decide +kernel
theorem dX0_coverFrom_86 : decode cX0_coverFrom 86 = .ok (.iload_n 3, 1) := by decide +kernel
theorem dX0_coverFrom_87 : decode cX0_coverFrom 87 = .ok (.iload 4, 2) := by decide +kernel
theorem dX0_coverFrom_89 : decode cX0_coverFrom 89 = .ok (.invokestatic 18, 3) := by decide +kernel
theorem dX0_coverFrom_92 : decode cX0_coverFrom 92 = .ok (.ireturn, 1) := by decide +kernel
theorem dX1_init_0 : decode cX1_init 0 = .ok (.aload_n 0, 1) := by decide +kernel
theorem dX1_init_1 : decode cX1_init 1 = .ok (.invokespecial 3, 3) := by decide +kernel
theorem dX1_init_4 : decode cX1_init 4 = .ok (.aload_n 0, 1) := by decide +kernel
theorem dX1_init_5 : decode cX1_init 5 = .ok (.bipush 16, 2) := by decide +kernel
theorem dX1_init_7 : decode cX1_init 7 = .ok (.newarray .int, 2) := by decide +kernel
theorem dX1_init_9 : decode cX1_init 9 = .ok (.putfield 9, 3) := by decide +kernel
theorem dX1_init_12 : decode cX1_init 12 = .ok (.aload_n 0, 1) := by decide +kernel
theorem dX1_init_13 : decode cX1_init 13 = .ok (.bipush 16, 2) := by decide +kernel
theorem dX1_init_15 : decode cX1_init 15 = .ok (.newarray .int, 2) := by decide +kernel
theorem dX1_init_17 : decode cX1_init 17 = .ok (.putfield 15, 3) := by decide +kernel
theorem dX1_init_20 : decode cX1_init 20 = .ok (.return_, 1) := by decide +kernel
theorem dX1_grow_0 : decode cX1_grow 0 = .ok (.aload_n 0, 1) := by decide +kernel
theorem dX1_grow_1 : decode cX1_grow 1 = .ok (.getfield 18, 3) := by decide +kernel
theorem dX1_grow_4 : decode cX1_grow 4 = .ok (.istore_n 1, 1) := by decide +kernel
theorem dX1_grow_5 : decode cX1_grow 5 = .ok (.aload_n 0, 1) := by decide +kernel
theorem dX1_grow_6 : decode cX1_grow 6 = .ok (.dup, 1) := by decide +kernel
theorem dX1_grow_7 : decode cX1_grow 7 = .ok (.getfield 18, 3) := by decide +kernel
theorem dX1_grow_10 : decode cX1_grow 10 = .ok (.iconst 1, 1) := by decide +kernel
theorem dX1_grow_11 : decode cX1_grow 11 = .ok (.iadd, 1) := by decide +kernel
theorem dX1_grow_12 : decode cX1_grow 12 = .ok (.putfield 18, 3) := by decide +kernel
theorem dX1_grow_15 : decode cX1_grow 15 = .ok (.aload_n 0, 1) := by decide +kernel
theorem dX1_grow_16 : decode cX1_grow 16 = .ok (.iload_n 1, 1) := by decide +kernel
theorem dX1_grow_17 : decode cX1_grow 17 = .ok (.iconst (-1), 1) := by decide +kernel
theorem dX1_grow_18 : decode cX1_grow 18 = .ok (.invokevirtual 22, 3) := by decide +kernel
theorem dX1_grow_21 : decode cX1_grow 21 = .ok (.iload_n 1, 1) := by decide +kernel
theorem dX1_grow_22 : decode cX1_grow 22 = .ok (.ireturn, 1) := by decide +kernel
theorem dX1_hang_0 : decode cX1_hang 0 = .ok (.aload_n 0, 1) := by decide +kernel
theorem dX1_hang_1 : decode cX1_hang 1 = .ok (.getfield 9, 3) := by decide +kernel
theorem dX1_hang_4 : decode cX1_hang 4 = .ok (.iload_n 1, 1) := by decide +kernel
theorem dX1_hang_5 : decode cX1_hang 5 = .ok (.iload_n 2, 1) := by decide +kernel
theorem dX1_hang_6 : decode cX1_hang 6 = .ok (.iastore, 1) := by decide +kernel
theorem dX1_hang_7 : decode cX1_hang 7 = .ok (.iconst 0, 1) := by decide +kernel
theorem dX1_hang_8 : decode cX1_hang 8 = .ok (.istore_n 3, 1) := by decide +kernel
theorem dX1_hang_9 : decode cX1_hang 9 = .ok (.iload_n 3, 1) := by decide +kernel
theorem dX1_hang_10 : decode cX1_hang 10 = .ok (.aload_n 0, 1) := by decide +kernel
theorem dX1_hang_11 : decode cX1_hang 11 = .ok (.getfield 18, 3) := by decide +kernel
theorem dX1_hang_14 : decode cX1_hang 14 = .ok (.if_icmp .ge 20, 3) := by decide +kernel
theorem dX1_hang_17 : decode cX1_hang 17 = .ok (.aload_n 0, 1) := by decide +kernel
theorem dX1_hang_18 : decode cX1_hang 18 = .ok (.getfield 15, 3) := by decide +kernel
theorem dX1_hang_21 : decode cX1_hang 21 = .ok (.iload_n 3, 1) := by decide +kernel
theorem dX1_hang_22 : decode cX1_hang 22 = .ok (.aload_n 0, 1) := by decide +kernel
theorem dX1_hang_23 : decode cX1_hang 23 = .ok (.iload_n 3, 1) := by decide +kernel
theorem dX1_hang_24 : decode cX1_hang 24 = .ok (.invokevirtual 26, 3) := by decide +kernel
theorem dX1_hang_27 : decode cX1_hang 27 = .ok (.iastore, 1) := by decide +kernel
theorem dX1_hang_28 : decode cX1_hang 28 = .ok (.iinc 3 1, 3) := by decide +kernel
theorem dX1_hang_31 : decode cX1_hang 31 = .ok (.goto (-22), 3) := by decide +kernel
theorem dX1_hang_34 : decode cX1_hang 34 = .ok (.return_, 1) := by decide +kernel
theorem dX1_lineFrom_0 : decode cX1_lineFrom 0 = .ok (.iconst 0, 1) := by decide +kernel
theorem dX1_lineFrom_1 : decode cX1_lineFrom 1 = .ok (.istore_n 2, 1) := by decide +kernel
theorem dX1_lineFrom_2 : decode cX1_lineFrom 2 = .ok (.iload_n 1, 1) := by decide +kernel
theorem dX1_lineFrom_3 : decode cX1_lineFrom 3 = .ok (.istore_n 3, 1) := by decide +kernel
theorem dX1_lineFrom_4 : decode cX1_lineFrom 4 = .ok (.iconst 0, 1) := by decide +kernel
theorem dX1_lineFrom_5 : decode cX1_lineFrom 5 = .ok (.istore 4, 2) := by decide +kernel
theorem dX1_lineFrom_7 : decode cX1_lineFrom 7 = .ok (.iload 4, 2) := by decide +kernel
theorem dX1_lineFrom_9 : decode cX1_lineFrom 9 = .ok (.bipush 16, 2) := by decide +kernel
theorem dX1_lineFrom_11 : decode cX1_lineFrom 11 = .ok (.if_icmp .ge 34, 3) := by decide +kernel
theorem dX1_lineFrom_14 : decode cX1_lineFrom 14 = .ok (.iload_n 3, 1) := by decide +kernel
theorem dX1_lineFrom_15 : decode cX1_lineFrom 15 = .ok (.ifCond .lt 30, 3) := by decide +kernel
theorem dX1_lineFrom_18 : decode cX1_lineFrom 18 = .ok (.iload_n 3, 1) := by decide +kernel
theorem dX1_lineFrom_19 : decode cX1_lineFrom 19 = .ok (.aload_n 0, 1) := by decide +kernel
theorem dX1_lineFrom_20 : decode cX1_lineFrom 20 = .ok (.getfield 18, 3) := by decide +kernel
theorem dX1_lineFrom_23 : decode cX1_lineFrom 23 = .ok (.if_icmp .ge 22, 3) := by decide +kernel
theorem dX1_lineFrom_26 : decode cX1_lineFrom 26 = .ok (.iload_n 2, 1) := by decide +kernel
theorem dX1_lineFrom_27 : decode cX1_lineFrom 27 = .ok (.iconst 1, 1) := by decide +kernel
theorem dX1_lineFrom_28 : decode cX1_lineFrom 28 = .ok (.iload_n 3, 1) := by decide +kernel
theorem dX1_lineFrom_29 : decode cX1_lineFrom 29 = .ok (.ishl, 1) := by decide +kernel
theorem dX1_lineFrom_30 : decode cX1_lineFrom 30 = .ok (.ior, 1) := by decide +kernel
theorem dX1_lineFrom_31 : decode cX1_lineFrom 31 = .ok (.istore_n 2, 1) := by decide +kernel
theorem dX1_lineFrom_32 : decode cX1_lineFrom 32 = .ok (.aload_n 0, 1) := by decide +kernel
theorem dX1_lineFrom_33 : decode cX1_lineFrom 33 = .ok (.getfield 9, 3) := by decide +kernel
theorem dX1_lineFrom_36 : decode cX1_lineFrom 36 = .ok (.iload_n 3, 1) := by decide +kernel
theorem dX1_lineFrom_37 : decode cX1_lineFrom 37 = .ok (.iaload, 1) := by decide +kernel
theorem dX1_lineFrom_38 : decode cX1_lineFrom 38 = .ok (.istore_n 3, 1) := by decide +kernel
theorem dX1_lineFrom_39 : decode cX1_lineFrom 39 = .ok (.iinc 4 1, 3) := by decide +kernel
theorem dX1_lineFrom_42 : decode cX1_lineFrom 42 = .ok (.goto (-35), 3) := by decide +kernel
theorem dX1_lineFrom_45 : decode cX1_lineFrom 45 = .ok (.iload_n 2, 1) := by decide +kernel
theorem dX1_lineFrom_46 : decode cX1_lineFrom 46 = .ok (.ireturn, 1) := by decide +kernel
theorem dX1_linesOf_0 : decode cX1_linesOf 0 = .ok (.iconst 0, 1) := by decide +kernel
theorem dX1_linesOf_1 : decode cX1_linesOf 1 = .ok (.istore_n 2, 1) := by decide +kernel
theorem dX1_linesOf_2 : decode cX1_linesOf 2 = .ok (.iconst 0, 1) := by decide +kernel
theorem dX1_linesOf_3 : decode cX1_linesOf 3 = .ok (.istore_n 3, 1) := by decide +kernel
theorem dX1_linesOf_4 : decode cX1_linesOf 4 = .ok (.iload_n 3, 1) := by decide +kernel
theorem dX1_linesOf_5 : decode cX1_linesOf 5 = .ok (.aload_n 0, 1) := by decide +kernel
theorem dX1_linesOf_6 : decode cX1_linesOf 6 = .ok (.getfield 18, 3) := by decide +kernel
theorem dX1_linesOf_9 : decode cX1_linesOf 9 = .ok (.if_icmp .ge 26, 3) := by decide +kernel
theorem dX1_linesOf_12 : decode cX1_linesOf 12 = .ok (.iload_n 3, 1) := by decide +kernel
theorem dX1_linesOf_13 : decode cX1_linesOf 13 = .ok (.iload_n 1, 1) := by decide +kernel
theorem dX1_linesOf_14 : decode cX1_linesOf 14 = .ok (.invokestatic 30, 3) := by decide +kernel
theorem dX1_linesOf_17 : decode cX1_linesOf 17 = .ok (.ifCond .eq 12, 3) := by decide +kernel
theorem dX1_linesOf_20 : decode cX1_linesOf 20 = .ok (.iload_n 2, 1) := by decide +kernel
theorem dX1_linesOf_21 : decode cX1_linesOf 21 = .ok (.aload_n 0, 1) := by decide +kernel
theorem dX1_linesOf_22 : decode cX1_linesOf 22 = .ok (.getfield 15, 3) := by decide +kernel
theorem dX1_linesOf_25 : decode cX1_linesOf 25 = .ok (.iload_n 3, 1) := by decide +kernel
theorem dX1_linesOf_26 : decode cX1_linesOf 26 = .ok (.iaload, 1) := by decide +kernel
theorem dX1_linesOf_27 : decode cX1_linesOf 27 = .ok (.ior, 1) := by decide +kernel
theorem dX1_linesOf_28 : decode cX1_linesOf 28 = .ok (.istore_n 2, 1) := by decide +kernel
theorem dX1_linesOf_29 : decode cX1_linesOf 29 = .ok (.iinc 3 1, 3) := by decide +kernel
theorem dX1_linesOf_32 : decode cX1_linesOf 32 = .ok (.goto (-28), 3) := by decide +kernel
theorem dX1_linesOf_35 : decode cX1_linesOf 35 = .ok (.iload_n 2, 1) := by decide +kernel
theorem dX1_linesOf_36 : decode cX1_linesOf 36 = .ok (.ireturn, 1) := by decide +kernel
theorem dX1_standsBelow_0 : decode cX1_standsBelow 0 = .ok (.iload_n 1, 1) := by decide +kernel
theorem dX1_standsBelow_1 : decode cX1_standsBelow 1 = .ok (.iload_n 2, 1) := by decide +kernel
theorem dX1_standsBelow_2 : decode cX1_standsBelow 2 = .ok (.if_icmp .eq 20, 3) := by decide +kernel
theorem dX1_standsBelow_5 : decode cX1_standsBelow 5 = .ok (.iload_n 2, 1) := by decide +kernel
theorem dX1_standsBelow_6 : decode cX1_standsBelow 6 = .ok (.aload_n 0, 1) := by decide +kernel
theorem dX1_standsBelow_7 : decode cX1_standsBelow 7 = .ok (.getfield 15, 3) := by decide +kernel
theorem dX1_standsBelow_10 : decode cX1_standsBelow 10 = .ok (.iload_n 1, 1) := by decide +kernel
theorem dX1_standsBelow_11 : decode cX1_standsBelow 11 = .ok (.iaload, 1) := by decide +kernel
theorem dX1_standsBelow_12 : decode cX1_standsBelow 12 = .ok (.invokestatic 30, 3) := by decide +kernel
theorem dX1_standsBelow_15 : decode cX1_standsBelow 15 = .ok (.ifCond .eq 7, 3) := by decide +kernel
theorem dX1_standsBelow_18 : decode cX1_standsBelow 18 = .ok (.iconst 1, 1) := by decide +kernel
theorem dX1_standsBelow_19 : decode cX1_standsBelow 19 = .ok (.goto 4, 3) := by decide +kernel
theorem dX1_standsBelow_22 : decode cX1_standsBelow 22 = .ok (.iconst 0, 1) := by decide +kernel
theorem dX1_standsBelow_23 : decode cX1_standsBelow 23 = .ok (.ireturn, 1) := by decide +kernel
theorem dX1_canHang_0 : decode cX1_canHang 0 = .ok (.iload_n 1, 1) := by decide +kernel
theorem dX1_canHang_1 : decode cX1_canHang 1 = .ok (.iload_n 2, 1) := by decide +kernel
theorem dX1_canHang_2 : decode cX1_canHang 2 = .ok (.if_icmp .eq 16, 3) := by decide +kernel
theorem dX1_canHang_5 : decode cX1_canHang 5 = .ok (.aload_n 0, 1) := by decide +kernel
theorem dX1_canHang_6 : decode cX1_canHang 6 = .ok (.iload_n 2, 1) := by decide +kernel
theorem dX1_canHang_7 : decode cX1_canHang 7 = .ok (.iload_n 1, 1) := by decide +kernel
theorem dX1_canHang_8 : decode cX1_canHang 8 = .ok (.invokevirtual 34, 3) := by decide +kernel
theorem dX1_canHang_11 : decode cX1_canHang 11 = .ok (.ifCond .ne 7, 3) := by decide +kernel
theorem dX1_canHang_14 : decode cX1_canHang 14 = .ok (.iconst 1, 1) := by decide +kernel
theorem dX1_canHang_15 : decode cX1_canHang 15 = .ok (.goto 4, 3) := by decide +kernel
theorem dX1_canHang_18 : decode cX1_canHang 18 = .ok (.iconst 0, 1) := by decide +kernel
theorem dX1_canHang_19 : decode cX1_canHang 19 = .ok (.ireturn, 1) := by decide +kernel
theorem dX1_countAbove_0 : decode cX1_countAbove 0 = .ok (.aload_n 0, 1) := by decide +kernel
theorem dX1_countAbove_1 : decode cX1_countAbove 1 = .ok (.getfield 15, 3) := by decide +kernel
theorem dX1_countAbove_4 : decode cX1_countAbove 4 = .ok (.iload_n 1, 1) := by decide +kernel
theorem dX1_countAbove_5 : decode cX1_countAbove 5 = .ok (.iaload, 1) := by decide +kernel
theorem dX1_countAbove_6 : decode cX1_countAbove 6 = .ok (.invokestatic 37, 3) := by decide +kernel
theorem dX1_countAbove_9 : decode cX1_countAbove 9 = .ok (.iconst 1, 1) := by decide +kernel
theorem dX1_countAbove_10 : decode cX1_countAbove 10 = .ok (.isub, 1) := by decide +kernel
theorem dX1_countAbove_11 : decode cX1_countAbove 11 = .ok (.ireturn, 1) := by decide +kernel
theorem dX1_countBelow_0 : decode cX1_countBelow 0 = .ok (.iconst 0, 1) := by decide +kernel
theorem dX1_countBelow_1 : decode cX1_countBelow 1 = .ok (.istore_n 2, 1) := by decide +kernel
theorem dX1_countBelow_2 : decode cX1_countBelow 2 = .ok (.iconst 0, 1) := by decide +kernel
theorem dX1_countBelow_3 : decode cX1_countBelow 3 = .ok (.istore_n 3, 1) := by decide +kernel
theorem dX1_countBelow_4 : decode cX1_countBelow 4 = .ok (.iload_n 3, 1) := by decide +kernel
theorem dX1_countBelow_5 : decode cX1_countBelow 5 = .ok (.aload_n 0, 1) := by decide +kernel
theorem dX1_countBelow_6 : decode cX1_countBelow 6 = .ok (.getfield 18, 3) := by decide +kernel
theorem dX1_countBelow_9 : decode cX1_countBelow 9 = .ok (.if_icmp .ge 21, 3) := by decide +kernel
theorem dX1_countBelow_12 : decode cX1_countBelow 12 = .ok (.aload_n 0, 1) := by decide +kernel
theorem dX1_countBelow_13 : decode cX1_countBelow 13 = .ok (.iload_n 3, 1) := by decide +kernel
theorem dX1_countBelow_14 : decode cX1_countBelow 14 = .ok (.iload_n 1, 1) := by decide +kernel
theorem dX1_countBelow_15 : decode cX1_countBelow 15 = .ok (.invokevirtual 34, 3) := by decide +kernel
theorem dX1_countBelow_18 : decode cX1_countBelow 18 = .ok (.ifCond .eq 6, 3) := by decide +kernel
theorem dX1_countBelow_21 : decode cX1_countBelow 21 = .ok (.iinc 2 1, 3) := by decide +kernel
theorem dX1_countBelow_24 : decode cX1_countBelow 24 = .ok (.iinc 3 1, 3) := by decide +kernel
theorem dX1_countBelow_27 : decode cX1_countBelow 27 = .ok (.goto (-23), 3) := by decide +kernel
theorem dX1_countBelow_30 : decode cX1_countBelow 30 = .ok (.iload_n 2, 1) := by decide +kernel
theorem dX1_countBelow_31 : decode cX1_countBelow 31 = .ok (.ireturn, 1) := by decide +kernel
theorem dX1_lowestOf_0 : decode cX1_lowestOf 0 = .ok (.iconst (-1), 1) := by decide +kernel
theorem dX1_lowestOf_1 : decode cX1_lowestOf 1 = .ok (.istore_n 2, 1) := by decide +kernel
theorem dX1_lowestOf_2 : decode cX1_lowestOf 2 = .ok (.iconst (-1), 1) := by decide +kernel
theorem dX1_lowestOf_3 : decode cX1_lowestOf 3 = .ok (.istore_n 3, 1) := by decide +kernel
theorem dX1_lowestOf_4 : decode cX1_lowestOf 4 = .ok (.iconst 0, 1) := by decide +kernel
theorem dX1_lowestOf_5 : decode cX1_lowestOf 5 = .ok (.istore 4, 2) := by decide +kernel
theorem dX1_lowestOf_7 : decode cX1_lowestOf 7 = .ok (.iload 4, 2) := by decide +kernel
theorem dX1_lowestOf_9 : decode cX1_lowestOf 9 = .ok (.aload_n 0, 1) := by decide +kernel
theorem dX1_lowestOf_10 : decode cX1_lowestOf 10 = .ok (.getfield 18, 3) := by decide +kernel
theorem dX1_lowestOf_13 : decode cX1_lowestOf 13 = .ok (.if_icmp .ge 38, 3) := by decide +kernel
theorem dX1_lowestOf_16 : decode cX1_lowestOf 16 = .ok (.iload 4, 2) := by decide +kernel
theorem dX1_lowestOf_18 : decode cX1_lowestOf 18 = .ok (.iload_n 1, 1) := by decide +kernel
theorem dX1_lowestOf_19 : decode cX1_lowestOf 19 = .ok (.invokestatic 30, 3) := by decide +kernel
theorem dX1_lowestOf_22 : decode cX1_lowestOf 22 = .ok (.ifCond .eq 23, 3) := by decide +kernel
theorem dX1_lowestOf_25 : decode cX1_lowestOf 25 = .ok (.aload_n 0, 1) := by decide +kernel
theorem dX1_lowestOf_26 : decode cX1_lowestOf 26 = .ok (.iload 4, 2) := by decide +kernel
theorem dX1_lowestOf_28 : decode cX1_lowestOf 28 = .ok (.invokevirtual 42, 3) := by decide +kernel
theorem dX1_lowestOf_31 : decode cX1_lowestOf 31 = .ok (.iload_n 3, 1) := by decide +kernel
theorem dX1_lowestOf_32 : decode cX1_lowestOf 32 = .ok (.if_icmp .le 13, 3) := by decide +kernel
theorem dX1_lowestOf_35 : decode cX1_lowestOf 35 = .ok (.aload_n 0, 1) := by decide +kernel
theorem dX1_lowestOf_36 : decode cX1_lowestOf 36 = .ok (.iload 4, 2) := by decide +kernel
theorem dX1_lowestOf_38 : decode cX1_lowestOf 38 = .ok (.invokevirtual 42, 3) := by decide +kernel
theorem dX1_lowestOf_41 : decode cX1_lowestOf 41 = .ok (.istore_n 3, 1) := by decide +kernel
theorem dX1_lowestOf_42 : decode cX1_lowestOf 42 = .ok (.iload 4, 2) := by decide +kernel
theorem dX1_lowestOf_44 : decode cX1_lowestOf 44 = .ok (.istore_n 2, 1) := by decide +kernel
theorem dX1_lowestOf_45 : decode cX1_lowestOf 45 = .ok (.iinc 4 1, 3) := by decide +kernel
theorem dX1_lowestOf_48 : decode cX1_lowestOf 48 = .ok (.goto (-41), 3) := by decide +kernel
theorem dX1_lowestOf_51 : decode cX1_lowestOf 51 = .ok (.iload_n 2, 1) := by decide +kernel
theorem dX1_lowestOf_52 : decode cX1_lowestOf 52 = .ok (.ireturn, 1) := by decide +kernel
theorem dX2_init_0 : decode cX2_init 0 = .ok (.aload_n 0, 1) := by decide +kernel
theorem dX2_init_1 : decode cX2_init 1 = .ok (.invokespecial 3, 3) := by decide +kernel
theorem dX2_init_4 : decode cX2_init 4 = .ok (.aload_n 0, 1) := by decide +kernel
theorem dX2_init_5 : decode cX2_init 5 = .ok (.bipush 20, 2) := by decide +kernel
theorem dX2_init_7 : decode cX2_init 7 = .ok (.newarray .int, 2) := by decide +kernel
theorem dX2_init_9 : decode cX2_init 9 = .ok (.putfield 9, 3) := by decide +kernel
theorem dX2_init_12 : decode cX2_init 12 = .ok (.aload_n 0, 1) := by decide +kernel
theorem dX2_init_13 : decode cX2_init 13 = .ok (.bipush 20, 2) := by decide +kernel
theorem dX2_init_15 : decode cX2_init 15 = .ok (.newarray .int, 2) := by decide +kernel
theorem dX2_init_17 : decode cX2_init 17 = .ok (.putfield 15, 3) := by decide +kernel
theorem dX2_init_20 : decode cX2_init 20 = .ok (.aload_n 0, 1) := by decide +kernel
theorem dX2_init_21 : decode cX2_init 21 = .ok (.bipush 20, 2) := by decide +kernel
theorem dX2_init_23 : decode cX2_init 23 = .ok (.newarray .int, 2) := by decide +kernel
theorem dX2_init_25 : decode cX2_init 25 = .ok (.putfield 18, 3) := by decide +kernel
theorem dX2_init_28 : decode cX2_init 28 = .ok (.aload_n 0, 1) := by decide +kernel
theorem dX2_init_29 : decode cX2_init 29 = .ok (.bipush 20, 2) := by decide +kernel
theorem dX2_init_31 : decode cX2_init 31 = .ok (.newarray .int, 2) := by decide +kernel
theorem dX2_init_33 : decode cX2_init 33 = .ok (.putfield 21, 3) := by decide +kernel
theorem dX2_init_36 : decode cX2_init 36 = .ok (.return_, 1) := by decide +kernel
theorem dX2_add_0 : decode cX2_add 0 = .ok (.aload_n 0, 1) := by decide +kernel
theorem dX2_add_1 : decode cX2_add 1 = .ok (.getfield 24, 3) := by decide +kernel
theorem dX2_add_4 : decode cX2_add 4 = .ok (.istore 4, 2) := by decide +kernel
theorem dX2_add_6 : decode cX2_add 6 = .ok (.aload_n 0, 1) := by decide +kernel
theorem dX2_add_7 : decode cX2_add 7 = .ok (.dup, 1) := by decide +kernel
theorem dX2_add_8 : decode cX2_add 8 = .ok (.getfield 24, 3) := by decide +kernel
theorem dX2_add_11 : decode cX2_add 11 = .ok (.iconst 1, 1) := by decide +kernel
theorem dX2_add_12 : decode cX2_add 12 = .ok (.iadd, 1) := by decide +kernel
theorem dX2_add_13 : decode cX2_add 13 = .ok (.putfield 24, 3) := by decide +kernel
theorem dX2_add_16 : decode cX2_add 16 = .ok (.aload_n 0, 1) := by decide +kernel
theorem dX2_add_17 : decode cX2_add 17 = .ok (.getfield 9, 3) := by decide +kernel
theorem dX2_add_20 : decode cX2_add 20 = .ok (.iload 4, 2) := by decide +kernel
theorem dX2_add_22 : decode cX2_add 22 = .ok (.iload_n 1, 1) := by decide +kernel
theorem dX2_add_23 : decode cX2_add 23 = .ok (.iastore, 1) := by decide +kernel
theorem dX2_add_24 : decode cX2_add 24 = .ok (.aload_n 0, 1) := by decide +kernel
theorem dX2_add_25 : decode cX2_add 25 = .ok (.getfield 15, 3) := by decide +kernel
theorem dX2_add_28 : decode cX2_add 28 = .ok (.iload 4, 2) := by decide +kernel
theorem dX2_add_30 : decode cX2_add 30 = .ok (.iload_n 2, 1) := by decide +kernel
theorem dX2_add_31 : decode cX2_add 31 = .ok (.iastore, 1) := by decide +kernel
theorem dX2_add_32 : decode cX2_add 32 = .ok (.aload_n 0, 1) := by decide +kernel
theorem dX2_add_33 : decode cX2_add 33 = .ok (.getfield 18, 3) := by decide +kernel
theorem dX2_add_36 : decode cX2_add 36 = .ok (.iload 4, 2) := by decide +kernel
theorem dX2_add_38 : decode cX2_add 38 = .ok (.iload_n 3, 1) := by decide +kernel
theorem dX2_add_39 : decode cX2_add 39 = .ok (.iastore, 1) := by decide +kernel
theorem dX2_add_40 : decode cX2_add 40 = .ok (.iload 4, 2) := by decide +kernel
theorem dX2_add_42 : decode cX2_add 42 = .ok (.ireturn, 1) := by decide +kernel
theorem dX2_combine_0 : decode cX2_combine 0 = .ok (.aload_n 0, 1) := by decide +kernel
theorem dX2_combine_1 : decode cX2_combine 1 = .ok (.aload_n 0, 1) := by decide +kernel
theorem dX2_combine_2 : decode cX2_combine 2 = .ok (.getfield 15, 3) := by decide +kernel
theorem dX2_combine_5 : decode cX2_combine 5 = .ok (.iload_n 1, 1) := by decide +kernel
theorem dX2_combine_6 : decode cX2_combine 6 = .ok (.iaload, 1) := by decide +kernel
theorem dX2_combine_7 : decode cX2_combine 7 = .ok (.iload_n 1, 1) := by decide +kernel
theorem dX2_combine_8 : decode cX2_combine 8 = .ok (.invokevirtual 28, 3) := by decide +kernel
theorem dX2_combine_11 : decode cX2_combine 11 = .ok (.istore_n 3, 1) := by decide +kernel
theorem dX2_combine_12 : decode cX2_combine 12 = .ok (.aload_n 0, 1) := by decide +kernel
theorem dX2_combine_13 : decode cX2_combine 13 = .ok (.aload_n 0, 1) := by decide +kernel
theorem dX2_combine_14 : decode cX2_combine 14 = .ok (.getfield 18, 3) := by decide +kernel
theorem dX2_combine_17 : decode cX2_combine 17 = .ok (.iload_n 1, 1) := by decide +kernel
theorem dX2_combine_18 : decode cX2_combine 18 = .ok (.iaload, 1) := by decide +kernel
theorem dX2_combine_19 : decode cX2_combine 19 = .ok (.iload_n 1, 1) := by decide +kernel
theorem dX2_combine_20 : decode cX2_combine 20 = .ok (.invokevirtual 28, 3) := by decide +kernel
theorem dX2_combine_23 : decode cX2_combine 23 = .ok (.istore 4, 2) := by decide +kernel
theorem dX2_combine_25 : decode cX2_combine 25 = .ok (.aload_n 0, 1) := by decide +kernel
theorem dX2_combine_26 : decode cX2_combine 26 = .ok (.getfield 9, 3) := by decide +kernel
theorem dX2_combine_29 : decode cX2_combine 29 = .ok (.iload_n 1, 1) := by decide +kernel
theorem dX2_combine_30 : decode cX2_combine 30 = .ok (.iaload, 1) := by decide +kernel
theorem dX2_combine_31 : decode cX2_combine 31 = .ok (.iconst 1, 1) := by decide +kernel
theorem dX2_combine_32 : decode cX2_combine 32 = .ok (.if_icmp .ne 16, 3) := by decide +kernel
theorem dX2_combine_35 : decode cX2_combine 35 = .ok (.aload_n 0, 1) := by decide +kernel
theorem dX2_combine_36 : decode cX2_combine 36 = .ok (.getfield 21, 3) := by decide +kernel
theorem dX2_combine_39 : decode cX2_combine 39 = .ok (.iload_n 1, 1) := by decide +kernel
theorem dX2_combine_40 : decode cX2_combine 40 = .ok (.iload_n 3, 1) := by decide +kernel
theorem dX2_combine_41 : decode cX2_combine 41 = .ok (.iload 4, 2) := by decide +kernel
theorem dX2_combine_43 : decode cX2_combine 43 = .ok (.iand, 1) := by decide +kernel
theorem dX2_combine_44 : decode cX2_combine 44 = .ok (.iastore, 1) := by decide +kernel
theorem dX2_combine_45 : decode cX2_combine 45 = .ok (.goto 37, 3) := by decide +kernel
theorem dX2_combine_48 : decode cX2_combine 48 = .ok (.aload_n 0, 1) := by decide +kernel
theorem dX2_combine_49 : decode cX2_combine 49 = .ok (.getfield 9, 3) := by decide +kernel
theorem dX2_combine_52 : decode cX2_combine 52 = .ok (.iload_n 1, 1) := by decide +kernel
theorem dX2_combine_53 : decode cX2_combine 53 = .ok (.iaload, 1) := by decide +kernel
theorem dX2_combine_54 : decode cX2_combine 54 = .ok (.iconst 2, 1) := by decide +kernel
theorem dX2_combine_55 : decode cX2_combine 55 = .ok (.if_icmp .ne 16, 3) := by decide +kernel
theorem dX2_combine_58 : decode cX2_combine 58 = .ok (.aload_n 0, 1) := by decide +kernel
theorem dX2_combine_59 : decode cX2_combine 59 = .ok (.getfield 21, 3) := by decide +kernel
theorem dX2_combine_62 : decode cX2_combine 62 = .ok (.iload_n 1, 1) := by decide +kernel
theorem dX2_combine_63 : decode cX2_combine 63 = .ok (.iload_n 3, 1) := by decide +kernel
theorem dX2_combine_64 : decode cX2_combine 64 = .ok (.iload 4, 2) := by decide +kernel
theorem dX2_combine_66 : decode cX2_combine 66 = .ok (.ior, 1) := by decide +kernel
theorem dX2_combine_67 : decode cX2_combine 67 = .ok (.iastore, 1) := by decide +kernel
theorem dX2_combine_68 : decode cX2_combine 68 = .ok (.goto 14, 3) := by decide +kernel
theorem dX2_combine_71 : decode cX2_combine 71 = .ok (.aload_n 0, 1) := by decide +kernel
theorem dX2_combine_72 : decode cX2_combine 72 = .ok (.getfield 21, 3) := by decide +kernel
theorem dX2_combine_75 : decode cX2_combine 75 = .ok (.iload_n 1, 1) := by decide +kernel
theorem dX2_combine_76 : decode cX2_combine 76 = .ok (.iload_n 2, 1) := by decide +kernel
theorem dX2_combine_77 : decode cX2_combine 77 = .ok (.iload_n 3, 1) := by decide +kernel
theorem dX2_combine_78 : decode cX2_combine 78 = .ok (.iconst (-1), 1) := by decide +kernel
theorem dX2_combine_79 : decode cX2_combine 79 = .ok (.ixor, 1) := by decide +kernel
theorem dX2_combine_80 : decode cX2_combine 80 = .ok (.iand, 1) := by decide +kernel
theorem dX2_combine_81 : decode cX2_combine 81 = .ok (.iastore, 1) := by decide +kernel
theorem dX2_combine_82 : decode cX2_combine 82 = .ok (.return_, 1) := by decide +kernel
theorem dX2_matchedAhead_0 : decode cX2_matchedAhead 0 = .ok (.iload_n 1, 1) := by decide +kernel
theorem dX2_matchedAhead_1 : decode cX2_matchedAhead 1 = .ok (.ifCond .lt 17, 3) := by decide +kernel
theorem dX2_matchedAhead_4 : decode cX2_matchedAhead 4 = .ok (.iload_n 1, 1) := by decide +kernel
theorem dX2_matchedAhead_5 : decode cX2_matchedAhead 5 = .ok (.iload_n 2, 1) := by decide +kernel
theorem dX2_matchedAhead_6 : decode cX2_matchedAhead 6 = .ok (.if_icmp .ge 12, 3) := by decide +kernel
theorem dX2_matchedAhead_9 : decode cX2_matchedAhead 9 = .ok (.aload_n 0, 1) := by decide +kernel
theorem dX2_matchedAhead_10 : decode cX2_matchedAhead 10 = .ok (.getfield 21, 3) := by decide +kernel
theorem dX2_matchedAhead_13 : decode cX2_matchedAhead 13 = .ok (.iload_n 1, 1) := by decide +kernel
theorem dX2_matchedAhead_14 : decode cX2_matchedAhead 14 = .ok (.iaload, 1) := by decide +kernel
theorem dX2_matchedAhead_15 : decode cX2_matchedAhead 15 = .ok (.goto 4, 3) := by decide +kernel
theorem dX2_matchedAhead_18 : decode cX2_matchedAhead 18 = .ok (.iconst 0, 1) := by decide +kernel
theorem dX2_matchedAhead_19 : decode cX2_matchedAhead 19 = .ok (.ireturn, 1) := by decide +kernel
theorem dX3_init_0 : decode cX3_init 0 = .ok (.aload_n 0, 1) := by decide +kernel
theorem dX3_init_1 : decode cX3_init 1 = .ok (.invokespecial 1, 3) := by decide +kernel
theorem dX3_init_4 : decode cX3_init 4 = .ok (.aload_n 0, 1) := by decide +kernel
theorem dX3_init_5 : decode cX3_init 5 = .ok (.new 7, 3) := by decide +kernel
theorem dX3_init_8 : decode cX3_init 8 = .ok (.dup, 1) := by decide +kernel
theorem dX3_init_9 : decode cX3_init 9 = .ok (.invokespecial 9, 3) := by decide +kernel
theorem dX3_init_12 : decode cX3_init 12 = .ok (.putfield 10, 3) := by decide +kernel
theorem dX3_init_15 : decode cX3_init 15 = .ok (.aload_n 0, 1) := by decide +kernel
theorem dX3_init_16 : decode cX3_init 16 = .ok (.new 16, 3) := by decide +kernel
theorem dX3_init_19 : decode cX3_init 19 = .ok (.dup, 1) := by decide +kernel
theorem dX3_init_20 : decode cX3_init 20 = .ok (.invokespecial 18, 3) := by decide +kernel
theorem dX3_init_23 : decode cX3_init 23 = .ok (.putfield 19, 3) := by decide +kernel
theorem dX3_init_26 : decode cX3_init 26 = .ok (.aload_n 0, 1) := by decide +kernel
theorem dX3_init_27 : decode cX3_init 27 = .ok (.new 23, 3) := by decide +kernel
theorem dX3_init_30 : decode cX3_init 30 = .ok (.dup, 1) := by decide +kernel
theorem dX3_init_31 : decode cX3_init 31 = .ok (.invokespecial 25, 3) := by decide +kernel
theorem dX3_init_34 : decode cX3_init 34 = .ok (.putfield 26, 3) := by decide +kernel
theorem dX3_init_37 : decode cX3_init 37 = .ok (.aload_n 0, 1) := by decide +kernel
theorem dX3_init_38 : decode cX3_init 38 = .ok (.bipush 24, 2) := by decide +kernel
theorem dX3_init_40 : decode cX3_init 40 = .ok (.newarray .int, 2) := by decide +kernel
theorem dX3_init_42 : decode cX3_init 42 = .ok (.putfield 30, 3) := by decide +kernel
theorem dX3_init_45 : decode cX3_init 45 = .ok (.aload_n 0, 1) := by decide +kernel
theorem dX3_init_46 : decode cX3_init 46 = .ok (.bipush 24, 2) := by decide +kernel
theorem dX3_init_48 : decode cX3_init 48 = .ok (.newarray .int, 2) := by decide +kernel
theorem dX3_init_50 : decode cX3_init 50 = .ok (.putfield 34, 3) := by decide +kernel
theorem dX3_init_53 : decode cX3_init 53 = .ok (.aload_n 0, 1) := by decide +kernel
theorem dX3_init_54 : decode cX3_init 54 = .ok (.bipush 24, 2) := by decide +kernel
theorem dX3_init_56 : decode cX3_init 56 = .ok (.newarray .int, 2) := by decide +kernel
theorem dX3_init_58 : decode cX3_init 58 = .ok (.putfield 37, 3) := by decide +kernel
theorem dX3_init_61 : decode cX3_init 61 = .ok (.aload_n 0, 1) := by decide +kernel
theorem dX3_init_62 : decode cX3_init 62 = .ok (.bipush 24, 2) := by decide +kernel
theorem dX3_init_64 : decode cX3_init 64 = .ok (.newarray .int, 2) := by decide +kernel
theorem dX3_init_66 : decode cX3_init 66 = .ok (.putfield 40, 3) := by decide +kernel
theorem dX3_init_69 : decode cX3_init 69 = .ok (.return_, 1) := by decide +kernel
theorem dX3_addTag_0 : decode cX3_addTag 0 = .ok (.aload_n 0, 1) := by decide +kernel
theorem dX3_addTag_1 : decode cX3_addTag 1 = .ok (.getfield 10, 3) := by decide +kernel
theorem dX3_addTag_4 : decode cX3_addTag 4 = .ok (.getfield 43, 3) := by decide +kernel
theorem dX3_addTag_7 : decode cX3_addTag 7 = .ok (.bipush 16, 2) := by decide +kernel
theorem dX3_addTag_9 : decode cX3_addTag 9 = .ok (.if_icmp .lt 13, 3) := by decide +kernel
theorem dX3_addTag_12 : decode cX3_addTag 12 = .ok (.new 47, 3) := by decide +kernel
theorem dX3_addTag_15 : decode cX3_addTag 15 = .ok (.dup, 1) := by decide +kernel
theorem dX3_addTag_16 : decode cX3_addTag 16 = .ok (.ldc 49, 2) := by decide +kernel
theorem dX3_addTag_18 : decode cX3_addTag 18 = .ok (.invokespecial 51, 3) := by decide +kernel
theorem dX3_addTag_21 : decode cX3_addTag 21 = .ok (.athrow, 1) := by decide +kernel
theorem dX3_addTag_22 : decode cX3_addTag 22 = .ok (.aload_n 0, 1) := by decide +kernel
theorem dX3_addTag_23 : decode cX3_addTag 23 = .ok (.getfield 10, 3) := by decide +kernel
theorem dX3_addTag_26 : decode cX3_addTag 26 = .ok (.invokevirtual 54, 3) := by decide +kernel
theorem dX3_addTag_29 : decode cX3_addTag 29 = .ok (.ireturn, 1) := by decide +kernel
theorem dX3_putUnder_0 : decode cX3_putUnder 0 = .ok (.aload_n 0, 1) := by decide +kernel
theorem dX3_putUnder_1 : decode cX3_putUnder 1 = .ok (.iload_n 1, 1) := by decide +kernel
theorem dX3_putUnder_2 : decode cX3_putUnder 2 = .ok (.iload_n 2, 1) := by decide +kernel
theorem dX3_putUnder_3 : decode cX3_putUnder 3 = .ok (.invokevirtual 58, 3) := by decide +kernel
theorem dX3_putUnder_6 : decode cX3_putUnder 6 = .ok (.aload_n 0, 1) := by decide +kernel
theorem dX3_putUnder_7 : decode cX3_putUnder 7 = .ok (.iload_n 1, 1) := by decide +kernel
theorem dX3_putUnder_8 : decode cX3_putUnder 8 = .ok (.iload_n 2, 1) := by decide +kernel
theorem dX3_putUnder_9 : decode cX3_putUnder 9 = .ok (.invokevirtual 62, 3) := by decide +kernel
theorem dX3_putUnder_12 : decode cX3_putUnder 12 = .ok (.aload_n 0, 1) := by decide +kernel
theorem dX3_putUnder_13 : decode cX3_putUnder 13 = .ok (.getfield 10, 3) := by decide +kernel
theorem dX3_putUnder_16 : decode cX3_putUnder 16 = .ok (.iload_n 1, 1) := by decide +kernel
theorem dX3_putUnder_17 : decode cX3_putUnder 17 = .ok (.invokevirtual 65, 3) := by decide +kernel
theorem dX3_putUnder_20 : decode cX3_putUnder 20 = .ok (.ireturn, 1) := by decide +kernel
theorem dX3_freeTag_0 : decode cX3_freeTag 0 = .ok (.aload_n 0, 1) := by decide +kernel
theorem dX3_freeTag_1 : decode cX3_freeTag 1 = .ok (.iload_n 1, 1) := by decide +kernel
theorem dX3_freeTag_2 : decode cX3_freeTag 2 = .ok (.invokevirtual 69, 3) := by decide +kernel
theorem dX3_freeTag_5 : decode cX3_freeTag 5 = .ok (.aload_n 0, 1) := by decide +kernel
theorem dX3_freeTag_6 : decode cX3_freeTag 6 = .ok (.getfield 10, 3) := by decide +kernel
theorem dX3_freeTag_9 : decode cX3_freeTag 9 = .ok (.getfield 73, 3) := by decide +kernel
theorem dX3_freeTag_12 : decode cX3_freeTag 12 = .ok (.iload_n 1, 1) := by decide +kernel
theorem dX3_freeTag_13 : decode cX3_freeTag 13 = .ok (.iaload, 1) := by decide +kernel
theorem dX3_freeTag_14 : decode cX3_freeTag 14 = .ok (.istore_n 2, 1) := by decide +kernel
theorem dX3_freeTag_15 : decode cX3_freeTag 15 = .ok (.aload_n 0, 1) := by decide +kernel
theorem dX3_freeTag_16 : decode cX3_freeTag 16 = .ok (.iload_n 1, 1) := by decide +kernel
theorem dX3_freeTag_17 : decode cX3_freeTag 17 = .ok (.iconst (-1), 1) := by decide +kernel
theorem dX3_freeTag_18 : decode cX3_freeTag 18 = .ok (.invokevirtual 62, 3) := by decide +kernel
theorem dX3_freeTag_21 : decode cX3_freeTag 21 = .ok (.iload_n 2, 1) := by decide +kernel
theorem dX3_freeTag_22 : decode cX3_freeTag 22 = .ok (.ireturn, 1) := by decide +kernel
theorem dX3_addDream_0 : decode cX3_addDream 0 = .ok (.aload_n 0, 1) := by decide +kernel
theorem dX3_addDream_1 : decode cX3_addDream 1 = .ok (.iload_n 1, 1) := by decide +kernel
theorem dX3_addDream_2 : decode cX3_addDream 2 = .ok (.invokevirtual 76, 3) := by decide +kernel
theorem dX3_addDream_5 : decode cX3_addDream 5 = .ok (.iload_n 2, 1) := by decide +kernel
theorem dX3_addDream_6 : decode cX3_addDream 6 = .ok (.iconst 1, 1) := by decide +kernel
theorem dX3_addDream_7 : decode cX3_addDream 7 = .ok (.if_icmp .lt 9, 3) := by decide +kernel
theorem dX3_addDream_10 : decode cX3_addDream 10 = .ok (.iload_n 2, 1) := by decide +kernel
theorem dX3_addDream_11 : decode cX3_addDream 11 = .ok (.bipush 9, 2) := by decide +kernel
theorem dX3_addDream_13 : decode cX3_addDream 13 = .ok (.if_icmp .le 13, 3) := by decide +kernel
theorem dX3_addDream_16 : decode cX3_addDream 16 = .ok (.new 79, 3) := by decide +kernel
theorem dX3_addDream_19 : decode cX3_addDream 19 = .ok (.dup, 1) := by decide +kernel
theorem dX3_addDream_20 : decode cX3_addDream 20 = .ok (.ldc 81, 2) := by decide +kernel
theorem dX3_addDream_22 : decode cX3_addDream 22 = .ok (.invokespecial 83, 3) := by decide +kernel
theorem dX3_addDream_25 : decode cX3_addDream 25 = .ok (.athrow, 1) := by decide +kernel
theorem dX3_addDream_26 : decode cX3_addDream 26 = .ok (.aload_n 0, 1) := by decide +kernel
theorem dX3_addDream_27 : decode cX3_addDream 27 = .ok (.getfield 84, 3) := by decide +kernel
theorem dX3_addDream_30 : decode cX3_addDream 30 = .ok (.bipush 24, 2) := by decide +kernel
theorem dX3_addDream_32 : decode cX3_addDream 32 = .ok (.if_icmp .lt 13, 3) := by decide +kernel
theorem dX3_addDream_35 : decode cX3_addDream 35 = .ok (.new 47, 3) := by decide +kernel
theorem dX3_addDream_38 : decode cX3_addDream 38 = .ok (.dup, 1) := by decide +kernel
theorem dX3_addDream_39 : decode cX3_addDream 39 = .ok (.ldc 87, 2) := by decide +kernel
theorem dX3_addDream_41 : decode cX3_addDream 41 = .ok (.invokespecial 51, 3) := by decide +kernel
theorem dX3_addDream_44 : decode cX3_addDream 44 = .ok (.athrow, 1) := by decide +kernel
theorem dX3_addDream_45 : decode cX3_addDream 45 = .ok (.aload_n 0, 1) := by decide +kernel
theorem dX3_addDream_46 : decode cX3_addDream 46 = .ok (.getfield 84, 3) := by decide +kernel
theorem dX3_addDream_49 : decode cX3_addDream 49 = .ok (.istore_n 3, 1) := by decide +kernel
theorem dX3_addDream_50 : decode cX3_addDream 50 = .ok (.aload_n 0, 1) := by decide +kernel
theorem dX3_addDream_51 : decode cX3_addDream 51 = .ok (.dup, 1) := by decide +kernel
theorem dX3_addDream_52 : decode cX3_addDream 52 = .ok (.getfield 84, 3) := by decide +kernel
theorem dX3_addDream_55 : decode cX3_addDream 55 = .ok (.iconst 1, 1) := by decide +kernel
theorem dX3_addDream_56 : decode cX3_addDream 56 = .ok (.iadd, 1) := by decide +kernel
theorem dX3_addDream_57 : decode cX3_addDream 57 = .ok (.putfield 84, 3) := by decide +kernel
theorem dX3_addDream_60 : decode cX3_addDream 60 = .ok (.aload_n 0, 1) := by decide +kernel
theorem dX3_addDream_61 : decode cX3_addDream 61 = .ok (.getfield 37, 3) := by decide +kernel
theorem dX3_addDream_64 : decode cX3_addDream 64 = .ok (.iload_n 3, 1) := by decide +kernel
theorem dX3_addDream_65 : decode cX3_addDream 65 = .ok (.iload_n 2, 1) := by decide +kernel
theorem dX3_addDream_66 : decode cX3_addDream 66 = .ok (.iastore, 1) := by decide +kernel
theorem dX3_addDream_67 : decode cX3_addDream 67 = .ok (.aload_n 0, 1) := by decide +kernel
theorem dX3_addDream_68 : decode cX3_addDream 68 = .ok (.getfield 40, 3) := by decide +kernel
theorem dX3_addDream_71 : decode cX3_addDream 71 = .ok (.iload_n 3, 1) := by decide +kernel
theorem dX3_addDream_72 : decode cX3_addDream 72 = .ok (.aload_n 0, 1) := by decide +kernel
theorem dX3_addDream_73 : decode cX3_addDream 73 = .ok (.getfield 89, 3) := by decide +kernel
theorem dX3_addDream_76 : decode cX3_addDream 76 = .ok (.iastore, 1) := by decide +kernel
theorem dX3_addDream_77 : decode cX3_addDream 77 = .ok (.aload_n 0, 1) := by decide +kernel
theorem dX3_addDream_78 : decode cX3_addDream 78 = .ok (.iload_n 3, 1) := by decide +kernel
theorem dX3_addDream_79 : decode cX3_addDream 79 = .ok (.iconst 1, 1) := by decide +kernel
theorem dX3_addDream_80 : decode cX3_addDream 80 = .ok (.iload_n 1, 1) := by decide +kernel
theorem dX3_addDream_81 : decode cX3_addDream 81 = .ok (.ishl, 1) := by decide +kernel
theorem dX3_addDream_82 : decode cX3_addDream 82 = .ok (.invokevirtual 92, 3) := by decide +kernel
theorem dX3_addDream_85 : decode cX3_addDream 85 = .ok (.iload_n 3, 1) := by decide +kernel
theorem dX3_addDream_86 : decode cX3_addDream 86 = .ok (.ireturn, 1) := by decide +kernel
theorem dX3_tagDream_0 : decode cX3_tagDream 0 = .ok (.aload_n 0, 1) := by decide +kernel
theorem dX3_tagDream_1 : decode cX3_tagDream 1 = .ok (.iload_n 1, 1) := by decide +kernel
theorem dX3_tagDream_2 : decode cX3_tagDream 2 = .ok (.invokevirtual 95, 3) := by decide +kernel
theorem dX3_tagDream_5 : decode cX3_tagDream 5 = .ok (.aload_n 0, 1) := by decide +kernel
theorem dX3_tagDream_6 : decode cX3_tagDream 6 = .ok (.iload_n 2, 1) := by decide +kernel
theorem dX3_tagDream_7 : decode cX3_tagDream 7 = .ok (.invokevirtual 76, 3) := by decide +kernel
theorem dX3_tagDream_10 : decode cX3_tagDream 10 = .ok (.iload_n 2, 1) := by decide +kernel
theorem dX3_tagDream_11 : decode cX3_tagDream 11 = .ok (.aload_n 0, 1) := by decide +kernel
theorem dX3_tagDream_12 : decode cX3_tagDream 12 = .ok (.getfield 30, 3) := by decide +kernel
theorem dX3_tagDream_15 : decode cX3_tagDream 15 = .ok (.iload_n 1, 1) := by decide +kernel
theorem dX3_tagDream_16 : decode cX3_tagDream 16 = .ok (.iaload, 1) := by decide +kernel
theorem dX3_tagDream_17 : decode cX3_tagDream 17 = .ok (.invokestatic 98, 3) := by decide +kernel
theorem dX3_tagDream_20 : decode cX3_tagDream 20 = .ok (.ifCond .eq 13, 3) := by decide +kernel
theorem dX3_tagDream_23 : decode cX3_tagDream 23 = .ok (.new 47, 3) := by decide +kernel
theorem dX3_tagDream_26 : decode cX3_tagDream 26 = .ok (.dup, 1) := by decide +kernel
theorem dX3_tagDream_27 : decode cX3_tagDream 27 = .ok (.ldc 102, 2) := by decide +kernel
theorem dX3_tagDream_29 : decode cX3_tagDream 29 = .ok (.invokespecial 51, 3) := by decide +kernel
theorem dX3_tagDream_32 : decode cX3_tagDream 32 = .ok (.athrow, 1) := by decide +kernel
theorem dX3_tagDream_33 : decode cX3_tagDream 33 = .ok (.aload_n 0, 1) := by decide +kernel
theorem dX3_tagDream_34 : decode cX3_tagDream 34 = .ok (.iload_n 1, 1) := by decide +kernel
theorem dX3_tagDream_35 : decode cX3_tagDream 35 = .ok (.aload_n 0, 1) := by decide +kernel
theorem dX3_tagDream_36 : decode cX3_tagDream 36 = .ok (.getfield 30, 3) := by decide +kernel
theorem dX3_tagDream_39 : decode cX3_tagDream 39 = .ok (.iload_n 1, 1) := by decide +kernel
theorem dX3_tagDream_40 : decode cX3_tagDream 40 = .ok (.iaload, 1) := by decide +kernel
theorem dX3_tagDream_41 : decode cX3_tagDream 41 = .ok (.iconst 1, 1) := by decide +kernel
theorem dX3_tagDream_42 : decode cX3_tagDream 42 = .ok (.iload_n 2, 1) := by decide +kernel
theorem dX3_tagDream_43 : decode cX3_tagDream 43 = .ok (.ishl, 1) := by decide +kernel
theorem dX3_tagDream_44 : decode cX3_tagDream 44 = .ok (.ior, 1) := by decide +kernel
theorem dX3_tagDream_45 : decode cX3_tagDream 45 = .ok (.invokevirtual 92, 3) := by decide +kernel
theorem dX3_tagDream_48 : decode cX3_tagDream 48 = .ok (.aload_n 0, 1) := by decide +kernel
theorem dX3_tagDream_49 : decode cX3_tagDream 49 = .ok (.getfield 30, 3) := by decide +kernel
theorem dX3_tagDream_52 : decode cX3_tagDream 52 = .ok (.iload_n 1, 1) := by decide +kernel
theorem dX3_tagDream_53 : decode cX3_tagDream 53 = .ok (.iaload, 1) := by decide +kernel
theorem dX3_tagDream_54 : decode cX3_tagDream 54 = .ok (.invokestatic 104, 3) := by decide +kernel
theorem dX3_tagDream_57 : decode cX3_tagDream 57 = .ok (.ireturn, 1) := by decide +kernel
theorem dX3_untagDream_0 : decode cX3_untagDream 0 = .ok (.aload_n 0, 1) := by decide +kernel
theorem dX3_untagDream_1 : decode cX3_untagDream 1 = .ok (.iload_n 1, 1) := by decide +kernel
theorem dX3_untagDream_2 : decode cX3_untagDream 2 = .ok (.invokevirtual 95, 3) := by decide +kernel
theorem dX3_untagDream_5 : decode cX3_untagDream 5 = .ok (.aload_n 0, 1) := by decide +kernel
theorem dX3_untagDream_6 : decode cX3_untagDream 6 = .ok (.iload_n 2, 1) := by decide +kernel
theorem dX3_untagDream_7 : decode cX3_untagDream 7 = .ok (.invokevirtual 76, 3) := by decide +kernel
theorem dX3_untagDream_10 : decode cX3_untagDream 10 = .ok (.iload_n 2, 1) := by decide +kernel
theorem dX3_untagDream_11 : decode cX3_untagDream 11 = .ok (.aload_n 0, 1) := by decide +kernel
theorem dX3_untagDream_12 : decode cX3_untagDream 12 = .ok (.getfield 30, 3) := by decide +kernel
theorem dX3_untagDream_15 : decode cX3_untagDream 15 = .ok (.iload_n 1, 1) := by decide +kernel
theorem dX3_untagDream_16 : decode cX3_untagDream 16 = .ok (.iaload, 1) := by decide +kernel
theorem dX3_untagDream_17 : decode cX3_untagDream 17 = .ok (.invokestatic 98, 3) := by decide +kernel
theorem dX3_untagDream_20 : decode cX3_untagDream 20 = .ok (.ifCond .ne 13, 3) := by decide +kernel
theorem dX3_untagDream_23 : decode cX3_untagDream 23 = .ok (.new 47, 3) := by decide +kernel
theorem dX3_untagDream_26 : decode cX3_untagDream 26 = .ok (.dup, 1) := by decide +kernel
theorem dX3_untagDream_27 : decode cX3_untagDream 27 = .ok (.ldc 109, 2) := by decide +kernel
theorem dX3_untagDream_29 : decode cX3_untagDream 29 = .ok (.invokespecial 51, 3) := by decide +kernel
theorem dX3_untagDream_32 : decode cX3_untagDream 32 = .ok (.athrow, 1) := by decide +kernel
theorem dX3_untagDream_33 : decode cX3_untagDream 33 = .ok (.aload_n 0, 1) := by decide +kernel
theorem dX3_untagDream_34 : decode cX3_untagDream 34 = .ok (.getfield 30, 3) := by decide +kernel
theorem dX3_untagDream_37 : decode cX3_untagDream 37 = .ok (.iload_n 1, 1) := by decide +kernel
theorem dX3_untagDream_38 : decode cX3_untagDream 38 = .ok (.iaload, 1) := by decide +kernel
theorem dX3_untagDream_39 : decode cX3_untagDream 39 = .ok (.iconst 1, 1) := by decide +kernel
theorem dX3_untagDream_40 : decode cX3_untagDream 40 = .ok (.iload_n 2, 1) := by decide +kernel
theorem dX3_untagDream_41 : decode cX3_untagDream 41 = .ok (.ishl, 1) := by decide +kernel
theorem dX3_untagDream_42 : decode cX3_untagDream 42 = .ok (.if_icmp .ne 13, 3) := by decide +kernel
theorem dX3_untagDream_45 : decode cX3_untagDream 45 = .ok (.new 47, 3) := by decide +kernel
theorem dX3_untagDream_48 : decode cX3_untagDream 48 = .ok (.dup, 1) := by decide +kernel
theorem dX3_untagDream_49 : decode cX3_untagDream 49 = .ok (.ldc 111, 2) := by decide +kernel
theorem dX3_untagDream_51 : decode cX3_untagDream 51 = .ok (.invokespecial 51, 3) := by decide +kernel
theorem dX3_untagDream_54 : decode cX3_untagDream 54 = .ok (.athrow, 1) := by decide +kernel
theorem dX3_untagDream_55 : decode cX3_untagDream 55 = .ok (.aload_n 0, 1) := by decide +kernel
theorem dX3_untagDream_56 : decode cX3_untagDream 56 = .ok (.iload_n 1, 1) := by decide +kernel
theorem dX3_untagDream_57 : decode cX3_untagDream 57 = .ok (.aload_n 0, 1) := by decide +kernel
theorem dX3_untagDream_58 : decode cX3_untagDream 58 = .ok (.getfield 30, 3) := by decide +kernel
theorem dX3_untagDream_61 : decode cX3_untagDream 61 = .ok (.iload_n 1, 1) := by decide +kernel
theorem dX3_untagDream_62 : decode cX3_untagDream 62 = .ok (.iaload, 1) := by decide +kernel
theorem dX3_untagDream_63 : decode cX3_untagDream 63 = .ok (.iconst 1, 1) := by decide +kernel
theorem dX3_untagDream_64 : decode cX3_untagDream 64 = .ok (.iload_n 2, 1) := by decide +kernel
theorem dX3_untagDream_65 : decode cX3_untagDream 65 = .ok (.ishl, 1) := by decide +kernel
theorem dX3_untagDream_66 : decode cX3_untagDream 66 = .ok (.iconst (-1), 1) := by decide +kernel
theorem dX3_untagDream_67 : decode cX3_untagDream 67 = .ok (.ixor, 1) := by decide +kernel
theorem dX3_untagDream_68 : decode cX3_untagDream 68 = .ok (.iand, 1) := by decide +kernel
theorem dX3_untagDream_69 : decode cX3_untagDream 69 = .ok (.invokevirtual 92, 3) := by decide +kernel
theorem dX3_untagDream_72 : decode cX3_untagDream 72 = .ok (.aload_n 0, 1) := by decide +kernel
theorem dX3_untagDream_73 : decode cX3_untagDream 73 = .ok (.getfield 30, 3) := by decide +kernel
theorem dX3_untagDream_76 : decode cX3_untagDream 76 = .ok (.iload_n 1, 1) := by decide +kernel
theorem dX3_untagDream_77 : decode cX3_untagDream 77 = .ok (.iaload, 1) := by decide +kernel
theorem dX3_untagDream_78 : decode cX3_untagDream 78 = .ok (.invokestatic 104, 3) := by decide +kernel
theorem dX3_untagDream_81 : decode cX3_untagDream 81 = .ok (.ireturn, 1) := by decide +kernel
theorem dX3_recall_0 : decode cX3_recall 0 = .ok (.aload_n 0, 1) := by decide +kernel
theorem dX3_recall_1 : decode cX3_recall 1 = .ok (.iload_n 1, 1) := by decide +kernel
theorem dX3_recall_2 : decode cX3_recall 2 = .ok (.invokevirtual 95, 3) := by decide +kernel
theorem dX3_recall_5 : decode cX3_recall 5 = .ok (.iload_n 2, 1) := by decide +kernel
theorem dX3_recall_6 : decode cX3_recall 6 = .ok (.ifCond .lt 9, 3) := by decide +kernel
theorem dX3_recall_9 : decode cX3_recall 9 = .ok (.iload_n 2, 1) := by decide +kernel
theorem dX3_recall_10 : decode cX3_recall 10 = .ok (.bipush 9, 2) := by decide +kernel
theorem dX3_recall_12 : decode cX3_recall 12 = .ok (.if_icmp .le 13, 3) := by decide +kernel
theorem dX3_recall_15 : decode cX3_recall 15 = .ok (.new 79, 3) := by decide +kernel
theorem dX3_recall_18 : decode cX3_recall 18 = .ok (.dup, 1) := by decide +kernel
theorem dX3_recall_19 : decode cX3_recall 19 = .ok (.ldc 113, 2) := by decide +kernel
theorem dX3_recall_21 : decode cX3_recall 21 = .ok (.invokespecial 83, 3) := by decide +kernel
theorem dX3_recall_24 : decode cX3_recall 24 = .ok (.athrow, 1) := by decide +kernel
theorem dX3_recall_25 : decode cX3_recall 25 = .ok (.aload_n 0, 1) := by decide +kernel
theorem dX3_recall_26 : decode cX3_recall 26 = .ok (.getfield 37, 3) := by decide +kernel
theorem dX3_recall_29 : decode cX3_recall 29 = .ok (.iload_n 1, 1) := by decide +kernel
theorem dX3_recall_30 : decode cX3_recall 30 = .ok (.iaload, 1) := by decide +kernel
theorem dX3_recall_31 : decode cX3_recall 31 = .ok (.istore_n 3, 1) := by decide +kernel
theorem dX3_recall_32 : decode cX3_recall 32 = .ok (.aload_n 0, 1) := by decide +kernel
theorem dX3_recall_33 : decode cX3_recall 33 = .ok (.getfield 37, 3) := by decide +kernel
theorem dX3_recall_36 : decode cX3_recall 36 = .ok (.iload_n 1, 1) := by decide +kernel
theorem dX3_recall_37 : decode cX3_recall 37 = .ok (.iload_n 2, 1) := by decide +kernel
theorem dX3_recall_38 : decode cX3_recall 38 = .ok (.iastore, 1) := by decide +kernel
theorem dX3_recall_39 : decode cX3_recall 39 = .ok (.iload_n 3, 1) := by decide +kernel
theorem dX3_recall_40 : decode cX3_recall 40 = .ok (.ireturn, 1) := by decide +kernel
theorem dX3_passNights_0 : decode cX3_passNights 0 = .ok (.aload_n 0, 1) := by decide +kernel
theorem dX3_passNights_1 : decode cX3_passNights 1 = .ok (.iload_n 1, 1) := by decide +kernel
theorem dX3_passNights_2 : decode cX3_passNights 2 = .ok (.invokevirtual 115, 3) := by decide +kernel
theorem dX3_passNights_5 : decode cX3_passNights 5 = .ok (.iconst 0, 1) := by decide +kernel
theorem dX3_passNights_6 : decode cX3_passNights 6 = .ok (.istore_n 2, 1) := by decide +kernel
theorem dX3_passNights_7 : decode cX3_passNights 7 = .ok (.iload_n 2, 1) := by decide +kernel
theorem dX3_passNights_8 : decode cX3_passNights 8 = .ok (.aload_n 0, 1) := by decide +kernel
theorem dX3_passNights_9 : decode cX3_passNights 9 = .ok (.getfield 84, 3) := by decide +kernel
theorem dX3_passNights_12 : decode cX3_passNights 12 = .ok (.if_icmp .ge 21, 3) := by decide +kernel
theorem dX3_passNights_15 : decode cX3_passNights 15 = .ok (.aload_n 0, 1) := by decide +kernel
theorem dX3_passNights_16 : decode cX3_passNights 16 = .ok (.getfield 37, 3) := by decide +kernel
theorem dX3_passNights_19 : decode cX3_passNights 19 = .ok (.iload_n 2, 1) := by decide +kernel
theorem dX3_passNights_20 : decode cX3_passNights 20 = .ok (.aload_n 0, 1) := by decide +kernel
theorem dX3_passNights_21 : decode cX3_passNights 21 = .ok (.iload_n 2, 1) := by decide +kernel
theorem dX3_passNights_22 : decode cX3_passNights 22 = .ok (.iload_n 1, 1) := by decide +kernel
theorem dX3_passNights_23 : decode cX3_passNights 23 = .ok (.invokevirtual 118, 3) := by decide +kernel
theorem dX3_passNights_26 : decode cX3_passNights 26 = .ok (.iastore, 1) := by decide +kernel
theorem dX3_passNights_27 : decode cX3_passNights 27 = .ok (.iinc 2 1, 3) := by decide +kernel
theorem dX3_passNights_30 : decode cX3_passNights 30 = .ok (.goto (-23), 3) := by decide +kernel
theorem dX3_passNights_33 : decode cX3_passNights 33 = .ok (.aload_n 0, 1) := by decide +kernel
theorem dX3_passNights_34 : decode cX3_passNights 34 = .ok (.dup, 1) := by decide +kernel
theorem dX3_passNights_35 : decode cX3_passNights 35 = .ok (.getfield 89, 3) := by decide +kernel
theorem dX3_passNights_38 : decode cX3_passNights 38 = .ok (.iload_n 1, 1) := by decide +kernel
theorem dX3_passNights_39 : decode cX3_passNights 39 = .ok (.iadd, 1) := by decide +kernel
theorem dX3_passNights_40 : decode cX3_passNights 40 = .ok (.putfield 89, 3) := by decide +kernel
theorem dX3_passNights_43 : decode cX3_passNights 43 = .ok (.aload_n 0, 1) := by decide +kernel
theorem dX3_passNights_44 : decode cX3_passNights 44 = .ok (.iconst 0, 1) := by decide +kernel
theorem dX3_passNights_45 : decode cX3_passNights 45 = .ok (.invokevirtual 122, 3) := by decide +kernel
theorem dX3_passNights_48 : decode cX3_passNights 48 = .ok (.ireturn, 1) := by decide +kernel
theorem dX3_addTagTerm_0 : decode cX3_addTagTerm 0 = .ok (.aload_n 0, 1) := by decide +kernel
theorem dX3_addTagTerm_1 : decode cX3_addTagTerm 1 = .ok (.iload_n 1, 1) := by decide +kernel
theorem dX3_addTagTerm_2 : decode cX3_addTagTerm 2 = .ok (.invokevirtual 76, 3) := by decide +kernel
theorem dX3_addTagTerm_5 : decode cX3_addTagTerm 5 = .ok (.aload_n 0, 1) := by decide +kernel
theorem dX3_addTagTerm_6 : decode cX3_addTagTerm 6 = .ok (.invokevirtual 125, 3) := by decide +kernel
theorem dX3_addTagTerm_9 : decode cX3_addTagTerm 9 = .ok (.aload_n 0, 1) := by decide +kernel
theorem dX3_addTagTerm_10 : decode cX3_addTagTerm 10 = .ok (.iconst 0, 1) := by decide +kernel
theorem dX3_addTagTerm_11 : decode cX3_addTagTerm 11 = .ok (.iload_n 1, 1) := by decide +kernel
theorem dX3_addTagTerm_12 : decode cX3_addTagTerm 12 = .ok (.iload_n 1, 1) := by decide +kernel
theorem dX3_addTagTerm_13 : decode cX3_addTagTerm 13 = .ok (.invokevirtual 128, 3) := by decide +kernel
theorem dX3_addTagTerm_16 : decode cX3_addTagTerm 16 = .ok (.ireturn, 1) := by decide +kernel
theorem dX3_addBothTerm_0 : decode cX3_addBothTerm 0 = .ok (.aload_n 0, 1) := by decide +kernel
theorem dX3_addBothTerm_1 : decode cX3_addBothTerm 1 = .ok (.iload_n 1, 1) := by decide +kernel
theorem dX3_addBothTerm_2 : decode cX3_addBothTerm 2 = .ok (.invokevirtual 132, 3) := by decide +kernel
theorem dX3_addBothTerm_5 : decode cX3_addBothTerm 5 = .ok (.aload_n 0, 1) := by decide +kernel
theorem dX3_addBothTerm_6 : decode cX3_addBothTerm 6 = .ok (.iload_n 2, 1) := by decide +kernel
theorem dX3_addBothTerm_7 : decode cX3_addBothTerm 7 = .ok (.invokevirtual 132, 3) := by decide +kernel
theorem dX3_addBothTerm_10 : decode cX3_addBothTerm 10 = .ok (.aload_n 0, 1) := by decide +kernel
theorem dX3_addBothTerm_11 : decode cX3_addBothTerm 11 = .ok (.invokevirtual 125, 3) := by decide +kernel
theorem dX3_addBothTerm_14 : decode cX3_addBothTerm 14 = .ok (.aload_n 0, 1) := by decide +kernel
theorem dX3_addBothTerm_15 : decode cX3_addBothTerm 15 = .ok (.iconst 1, 1) := by decide +kernel
theorem dX3_addBothTerm_16 : decode cX3_addBothTerm 16 = .ok (.iload_n 1, 1) := by decide +kernel
theorem dX3_addBothTerm_17 : decode cX3_addBothTerm 17 = .ok (.iload_n 2, 1) := by decide +kernel
theorem dX3_addBothTerm_18 : decode cX3_addBothTerm 18 = .ok (.invokevirtual 128, 3) := by decide +kernel
theorem dX3_addBothTerm_21 : decode cX3_addBothTerm 21 = .ok (.ireturn, 1) := by decide +kernel
theorem dX3_addEitherTerm_0 : decode cX3_addEitherTerm 0 = .ok (.aload_n 0, 1) := by decide +kernel
theorem dX3_addEitherTerm_1 : decode cX3_addEitherTerm 1 = .ok (.iload_n 1, 1) := by decide +kernel
theorem dX3_addEitherTerm_2 : decode cX3_addEitherTerm 2 = .ok (.invokevirtual 132, 3) := by decide +kernel
theorem dX3_addEitherTerm_5 : decode cX3_addEitherTerm 5 = .ok (.aload_n 0, 1) := by decide +kernel
theorem dX3_addEitherTerm_6 : decode cX3_addEitherTerm 6 = .ok (.iload_n 2, 1) := by decide +kernel
theorem dX3_addEitherTerm_7 : decode cX3_addEitherTerm 7 = .ok (.invokevirtual 132, 3) := by decide +kernel
theorem dX3_addEitherTerm_10 : decode cX3_addEitherTerm 10 = .ok (.aload_n 0, 1) := by decide +kernel
theorem dX3_addEitherTerm_11 : decode cX3_addEitherTerm 11 = .ok (.invokevirtual 125, 3) := by decide +kernel
theorem dX3_addEitherTerm_14 : decode cX3_addEitherTerm 14 = .ok (.aload_n 0, 1) := by decide +kernel
theorem dX3_addEitherTerm_15 : decode cX3_addEitherTerm 15 = .ok (.iconst 2, 1) := by decide +kernel
theorem dX3_addEitherTerm_16 : decode cX3_addEitherTerm 16 = .ok (.iload_n 1, 1) := by decide +kernel
theorem dX3_addEitherTerm_17 : decode cX3_addEitherTerm 17 = .ok (.iload_n 2, 1) := by decide +kernel
theorem dX3_addEitherTerm_18 : decode cX3_addEitherTerm 18 = .ok (.invokevirtual 128, 3) := by decide +kernel
theorem dX3_addEitherTerm_21 : decode cX3_addEitherTerm 21 = .ok (.ireturn, 1) := by decide +kernel
theorem dX3_addWithoutTerm_0 : decode cX3_addWithoutTerm 0 = .ok (.aload_n 0, 1) := by decide +kernel
theorem dX3_addWithoutTerm_1 : decode cX3_addWithoutTerm 1 = .ok (.iload_n 1, 1) := by decide +kernel
theorem dX3_addWithoutTerm_2 : decode cX3_addWithoutTerm 2 = .ok (.invokevirtual 132, 3) := by decide +kernel
theorem dX3_addWithoutTerm_5 : decode cX3_addWithoutTerm 5 = .ok (.aload_n 0, 1) := by decide +kernel
theorem dX3_addWithoutTerm_6 : decode cX3_addWithoutTerm 6 = .ok (.invokevirtual 125, 3) := by decide +kernel
theorem dX3_addWithoutTerm_9 : decode cX3_addWithoutTerm 9 = .ok (.aload_n 0, 1) := by decide +kernel
theorem dX3_addWithoutTerm_10 : decode cX3_addWithoutTerm 10 = .ok (.iconst 3, 1) := by decide +kernel
theorem dX3_addWithoutTerm_11 : decode cX3_addWithoutTerm 11 = .ok (.iload_n 1, 1) := by decide +kernel
theorem dX3_addWithoutTerm_12 : decode cX3_addWithoutTerm 12 = .ok (.iload_n 1, 1) := by decide +kernel
theorem dX3_addWithoutTerm_13 : decode cX3_addWithoutTerm 13 = .ok (.invokevirtual 128, 3) := by decide +kernel
theorem dX3_addWithoutTerm_16 : decode cX3_addWithoutTerm 16 = .ok (.ireturn, 1) := by decide +kernel
theorem dX3_clearTerms_0 : decode cX3_clearTerms 0 = .ok (.aload_n 0, 1) := by decide +kernel
theorem dX3_clearTerms_1 : decode cX3_clearTerms 1 = .ok (.getfield 19, 3) := by decide +kernel
theorem dX3_clearTerms_4 : decode cX3_clearTerms 4 = .ok (.getfield 135, 3) := by decide +kernel
theorem dX3_clearTerms_7 : decode cX3_clearTerms 7 = .ok (.istore_n 1, 1) := by decide +kernel
theorem dX3_clearTerms_8 : decode cX3_clearTerms 8 = .ok (.aload_n 0, 1) := by decide +kernel
theorem dX3_clearTerms_9 : decode cX3_clearTerms 9 = .ok (.getfield 19, 3) := by decide +kernel
theorem dX3_clearTerms_12 : decode cX3_clearTerms 12 = .ok (.iconst 0, 1) := by decide +kernel
theorem dX3_clearTerms_13 : decode cX3_clearTerms 13 = .ok (.putfield 135, 3) := by decide +kernel
theorem dX3_clearTerms_16 : decode cX3_clearTerms 16 = .ok (.iload_n 1, 1) := by decide +kernel
theorem dX3_clearTerms_17 : decode cX3_clearTerms 17 = .ok (.ireturn, 1) := by decide +kernel
theorem dX3_hasParent_0 : decode cX3_hasParent 0 = .ok (.aload_n 0, 1) := by decide +kernel
theorem dX3_hasParent_1 : decode cX3_hasParent 1 = .ok (.iload_n 1, 1) := by decide +kernel
theorem dX3_hasParent_2 : decode cX3_hasParent 2 = .ok (.invokevirtual 76, 3) := by decide +kernel
theorem dX3_hasParent_5 : decode cX3_hasParent 5 = .ok (.aload_n 0, 1) := by decide +kernel
theorem dX3_hasParent_6 : decode cX3_hasParent 6 = .ok (.getfield 10, 3) := by decide +kernel
theorem dX3_hasParent_9 : decode cX3_hasParent 9 = .ok (.getfield 73, 3) := by decide +kernel
theorem dX3_hasParent_12 : decode cX3_hasParent 12 = .ok (.iload_n 1, 1) := by decide +kernel
theorem dX3_hasParent_13 : decode cX3_hasParent 13 = .ok (.iaload, 1) := by decide +kernel
theorem dX3_hasParent_14 : decode cX3_hasParent 14 = .ok (.iconst (-1), 1) := by decide +kernel
theorem dX3_hasParent_15 : decode cX3_hasParent 15 = .ok (.if_icmp .eq 7, 3) := by decide +kernel
theorem dX3_hasParent_18 : decode cX3_hasParent 18 = .ok (.iconst 1, 1) := by decide +kernel
theorem dX3_hasParent_19 : decode cX3_hasParent 19 = .ok (.goto 4, 3) := by decide +kernel
theorem dX3_hasParent_22 : decode cX3_hasParent 22 = .ok (.iconst 0, 1) := by decide +kernel
theorem dX3_hasParent_23 : decode cX3_hasParent 23 = .ok (.ireturn, 1) := by decide +kernel
theorem dX3_parentOf_0 : decode cX3_parentOf 0 = .ok (.aload_n 0, 1) := by decide +kernel
theorem dX3_parentOf_1 : decode cX3_parentOf 1 = .ok (.iload_n 1, 1) := by decide +kernel
theorem dX3_parentOf_2 : decode cX3_parentOf 2 = .ok (.invokevirtual 69, 3) := by decide +kernel
theorem dX3_parentOf_5 : decode cX3_parentOf 5 = .ok (.aload_n 0, 1) := by decide +kernel
theorem dX3_parentOf_6 : decode cX3_parentOf 6 = .ok (.getfield 10, 3) := by decide +kernel
theorem dX3_parentOf_9 : decode cX3_parentOf 9 = .ok (.getfield 73, 3) := by decide +kernel
theorem dX3_parentOf_12 : decode cX3_parentOf 12 = .ok (.iload_n 1, 1) := by decide +kernel
theorem dX3_parentOf_13 : decode cX3_parentOf 13 = .ok (.iaload, 1) := by decide +kernel
theorem dX3_parentOf_14 : decode cX3_parentOf 14 = .ok (.ireturn, 1) := by decide +kernel
theorem dX3_tagsAbove_0 : decode cX3_tagsAbove 0 = .ok (.aload_n 0, 1) := by decide +kernel
theorem dX3_tagsAbove_1 : decode cX3_tagsAbove 1 = .ok (.iload_n 1, 1) := by decide +kernel
theorem dX3_tagsAbove_2 : decode cX3_tagsAbove 2 = .ok (.invokevirtual 76, 3) := by decide +kernel
theorem dX3_tagsAbove_5 : decode cX3_tagsAbove 5 = .ok (.aload_n 0, 1) := by decide +kernel
theorem dX3_tagsAbove_6 : decode cX3_tagsAbove 6 = .ok (.getfield 10, 3) := by decide +kernel
theorem dX3_tagsAbove_9 : decode cX3_tagsAbove 9 = .ok (.iload_n 1, 1) := by decide +kernel
theorem dX3_tagsAbove_10 : decode cX3_tagsAbove 10 = .ok (.invokevirtual 65, 3) := by decide +kernel
theorem dX3_tagsAbove_13 : decode cX3_tagsAbove 13 = .ok (.ireturn, 1) := by decide +kernel
theorem dX3_tagsBelow_0 : decode cX3_tagsBelow 0 = .ok (.aload_n 0, 1) := by decide +kernel
theorem dX3_tagsBelow_1 : decode cX3_tagsBelow 1 = .ok (.iload_n 1, 1) := by decide +kernel
theorem dX3_tagsBelow_2 : decode cX3_tagsBelow 2 = .ok (.invokevirtual 76, 3) := by decide +kernel
theorem dX3_tagsBelow_5 : decode cX3_tagsBelow 5 = .ok (.aload_n 0, 1) := by decide +kernel
theorem dX3_tagsBelow_6 : decode cX3_tagsBelow 6 = .ok (.getfield 10, 3) := by decide +kernel
theorem dX3_tagsBelow_9 : decode cX3_tagsBelow 9 = .ok (.iload_n 1, 1) := by decide +kernel
theorem dX3_tagsBelow_10 : decode cX3_tagsBelow 10 = .ok (.invokevirtual 136, 3) := by decide +kernel
theorem dX3_tagsBelow_13 : decode cX3_tagsBelow 13 = .ok (.ireturn, 1) := by decide +kernel
theorem dX3_isBelow_0 : decode cX3_isBelow 0 = .ok (.aload_n 0, 1) := by decide +kernel
theorem dX3_isBelow_1 : decode cX3_isBelow 1 = .ok (.iload_n 1, 1) := by decide +kernel
theorem dX3_isBelow_2 : decode cX3_isBelow 2 = .ok (.invokevirtual 76, 3) := by decide +kernel
theorem dX3_isBelow_5 : decode cX3_isBelow 5 = .ok (.aload_n 0, 1) := by decide +kernel
theorem dX3_isBelow_6 : decode cX3_isBelow 6 = .ok (.iload_n 2, 1) := by decide +kernel
theorem dX3_isBelow_7 : decode cX3_isBelow 7 = .ok (.invokevirtual 76, 3) := by decide +kernel
theorem dX3_isBelow_10 : decode cX3_isBelow 10 = .ok (.aload_n 0, 1) := by decide +kernel
theorem dX3_isBelow_11 : decode cX3_isBelow 11 = .ok (.getfield 10, 3) := by decide +kernel
theorem dX3_isBelow_14 : decode cX3_isBelow 14 = .ok (.iload_n 1, 1) := by decide +kernel
theorem dX3_isBelow_15 : decode cX3_isBelow 15 = .ok (.iload_n 2, 1) := by decide +kernel
theorem dX3_isBelow_16 : decode cX3_isBelow 16 = .ok (.invokevirtual 139, 3) := by decide +kernel
theorem dX3_isBelow_19 : decode cX3_isBelow 19 = .ok (.ireturn, 1) := by decide +kernel
theorem dX3_nearestAbove_0 : decode cX3_nearestAbove 0 = .ok (.aload_n 0, 1) := by decide +kernel
theorem dX3_nearestAbove_1 : decode cX3_nearestAbove 1 = .ok (.iload_n 1, 1) := by decide +kernel
theorem dX3_nearestAbove_2 : decode cX3_nearestAbove 2 = .ok (.invokevirtual 76, 3) := by decide +kernel
theorem dX3_nearestAbove_5 : decode cX3_nearestAbove 5 = .ok (.aload_n 0, 1) := by decide +kernel
theorem dX3_nearestAbove_6 : decode cX3_nearestAbove 6 = .ok (.iload_n 2, 1) := by decide +kernel
theorem dX3_nearestAbove_7 : decode cX3_nearestAbove 7 = .ok (.invokevirtual 76, 3) := by decide +kernel
theorem dX3_nearestAbove_10 : decode cX3_nearestAbove 10 = .ok (.aload_n 0, 1) := by decide +kernel
theorem dX3_nearestAbove_11 : decode cX3_nearestAbove 11 = .ok (.getfield 10, 3) := by decide +kernel
theorem dX3_nearestAbove_14 : decode cX3_nearestAbove 14 = .ok (.aload_n 0, 1) := by decide +kernel
theorem dX3_nearestAbove_15 : decode cX3_nearestAbove 15 = .ok (.getfield 10, 3) := by decide +kernel
theorem dX3_nearestAbove_18 : decode cX3_nearestAbove 18 = .ok (.getfield 142, 3) := by decide +kernel
theorem dX3_nearestAbove_21 : decode cX3_nearestAbove 21 = .ok (.iload_n 1, 1) := by decide +kernel
theorem dX3_nearestAbove_22 : decode cX3_nearestAbove 22 = .ok (.iaload, 1) := by decide +kernel
theorem dX3_nearestAbove_23 : decode cX3_nearestAbove 23 = .ok (.aload_n 0, 1) := by decide +kernel
theorem dX3_nearestAbove_24 : decode cX3_nearestAbove 24 = .ok (.getfield 10, 3) := by decide +kernel
theorem dX3_nearestAbove_27 : decode cX3_nearestAbove 27 = .ok (.getfield 142, 3) := by decide +kernel
theorem dX3_nearestAbove_30 : decode cX3_nearestAbove 30 = .ok (.iload_n 2, 1) := by decide +kernel
theorem dX3_nearestAbove_31 : decode cX3_nearestAbove 31 = .ok (.iaload, 1) := by decide +kernel
theorem dX3_nearestAbove_32 : decode cX3_nearestAbove 32 = .ok (.iand, 1) := by decide +kernel
theorem dX3_nearestAbove_33 : decode cX3_nearestAbove 33 = .ok (.invokevirtual 145, 3) := by decide +kernel
theorem dX3_nearestAbove_36 : decode cX3_nearestAbove 36 = .ok (.ireturn, 1) := by decide +kernel
theorem dX3_dreamsWith_0 : decode cX3_dreamsWith 0 = .ok (.aload_n 0, 1) := by decide +kernel
theorem dX3_dreamsWith_1 : decode cX3_dreamsWith 1 = .ok (.iload_n 1, 1) := by decide +kernel
theorem dX3_dreamsWith_2 : decode cX3_dreamsWith 2 = .ok (.invokevirtual 76, 3) := by decide +kernel
theorem dX3_dreamsWith_5 : decode cX3_dreamsWith 5 = .ok (.aload_n 0, 1) := by decide +kernel
theorem dX3_dreamsWith_6 : decode cX3_dreamsWith 6 = .ok (.iload_n 1, 1) := by decide +kernel
theorem dX3_dreamsWith_7 : decode cX3_dreamsWith 7 = .ok (.invokevirtual 148, 3) := by decide +kernel
theorem dX3_dreamsWith_10 : decode cX3_dreamsWith 10 = .ok (.invokestatic 104, 3) := by decide +kernel
theorem dX3_dreamsWith_13 : decode cX3_dreamsWith 13 = .ok (.ireturn, 1) := by decide +kernel
theorem dX3_hasOwnTag_0 : decode cX3_hasOwnTag 0 = .ok (.aload_n 0, 1) := by decide +kernel
theorem dX3_hasOwnTag_1 : decode cX3_hasOwnTag 1 = .ok (.iload_n 1, 1) := by decide +kernel
theorem dX3_hasOwnTag_2 : decode cX3_hasOwnTag 2 = .ok (.invokevirtual 95, 3) := by decide +kernel
theorem dX3_hasOwnTag_5 : decode cX3_hasOwnTag 5 = .ok (.aload_n 0, 1) := by decide +kernel
theorem dX3_hasOwnTag_6 : decode cX3_hasOwnTag 6 = .ok (.iload_n 2, 1) := by decide +kernel
theorem dX3_hasOwnTag_7 : decode cX3_hasOwnTag 7 = .ok (.invokevirtual 76, 3) := by decide +kernel
theorem dX3_hasOwnTag_10 : decode cX3_hasOwnTag 10 = .ok (.iload_n 2, 1) := by decide +kernel
theorem dX3_hasOwnTag_11 : decode cX3_hasOwnTag 11 = .ok (.aload_n 0, 1) := by decide +kernel
theorem dX3_hasOwnTag_12 : decode cX3_hasOwnTag 12 = .ok (.getfield 30, 3) := by decide +kernel
theorem dX3_hasOwnTag_15 : decode cX3_hasOwnTag 15 = .ok (.iload_n 1, 1) := by decide +kernel
theorem dX3_hasOwnTag_16 : decode cX3_hasOwnTag 16 = .ok (.iaload, 1) := by decide +kernel
theorem dX3_hasOwnTag_17 : decode cX3_hasOwnTag 17 = .ok (.invokestatic 98, 3) := by decide +kernel
theorem dX3_hasOwnTag_20 : decode cX3_hasOwnTag 20 = .ok (.ireturn, 1) := by decide +kernel
theorem dX3_hasTag_0 : decode cX3_hasTag 0 = .ok (.aload_n 0, 1) := by decide +kernel
theorem dX3_hasTag_1 : decode cX3_hasTag 1 = .ok (.iload_n 1, 1) := by decide +kernel
theorem dX3_hasTag_2 : decode cX3_hasTag 2 = .ok (.invokevirtual 95, 3) := by decide +kernel
theorem dX3_hasTag_5 : decode cX3_hasTag 5 = .ok (.aload_n 0, 1) := by decide +kernel
theorem dX3_hasTag_6 : decode cX3_hasTag 6 = .ok (.iload_n 2, 1) := by decide +kernel
theorem dX3_hasTag_7 : decode cX3_hasTag 7 = .ok (.invokevirtual 76, 3) := by decide +kernel
theorem dX3_hasTag_10 : decode cX3_hasTag 10 = .ok (.iload_n 2, 1) := by decide +kernel
theorem dX3_hasTag_11 : decode cX3_hasTag 11 = .ok (.aload_n 0, 1) := by decide +kernel
theorem dX3_hasTag_12 : decode cX3_hasTag 12 = .ok (.getfield 34, 3) := by decide +kernel
theorem dX3_hasTag_15 : decode cX3_hasTag 15 = .ok (.iload_n 1, 1) := by decide +kernel
theorem dX3_hasTag_16 : decode cX3_hasTag 16 = .ok (.iaload, 1) := by decide +kernel
theorem dX3_hasTag_17 : decode cX3_hasTag 17 = .ok (.invokestatic 98, 3) := by decide +kernel
theorem dX3_hasTag_20 : decode cX3_hasTag 20 = .ok (.ireturn, 1) := by decide +kernel
theorem dX3_tagsOf_0 : decode cX3_tagsOf 0 = .ok (.aload_n 0, 1) := by decide +kernel
theorem dX3_tagsOf_1 : decode cX3_tagsOf 1 = .ok (.iload_n 1, 1) := by decide +kernel
theorem dX3_tagsOf_2 : decode cX3_tagsOf 2 = .ok (.invokevirtual 95, 3) := by decide +kernel
theorem dX3_tagsOf_5 : decode cX3_tagsOf 5 = .ok (.aload_n 0, 1) := by decide +kernel
theorem dX3_tagsOf_6 : decode cX3_tagsOf 6 = .ok (.getfield 34, 3) := by decide +kernel
theorem dX3_tagsOf_9 : decode cX3_tagsOf 9 = .ok (.iload_n 1, 1) := by decide +kernel
theorem dX3_tagsOf_10 : decode cX3_tagsOf 10 = .ok (.iaload, 1) := by decide +kernel
theorem dX3_tagsOf_11 : decode cX3_tagsOf 11 = .ok (.invokestatic 104, 3) := by decide +kernel
theorem dX3_tagsOf_14 : decode cX3_tagsOf 14 = .ok (.ireturn, 1) := by decide +kernel
theorem dX3_vividnessOf_0 : decode cX3_vividnessOf 0 = .ok (.aload_n 0, 1) := by decide +kernel
theorem dX3_vividnessOf_1 : decode cX3_vividnessOf 1 = .ok (.iload_n 1, 1) := by decide +kernel
theorem dX3_vividnessOf_2 : decode cX3_vividnessOf 2 = .ok (.invokevirtual 95, 3) := by decide +kernel
theorem dX3_vividnessOf_5 : decode cX3_vividnessOf 5 = .ok (.aload_n 0, 1) := by decide +kernel
theorem dX3_vividnessOf_6 : decode cX3_vividnessOf 6 = .ok (.getfield 37, 3) := by decide +kernel
theorem dX3_vividnessOf_9 : decode cX3_vividnessOf 9 = .ok (.iload_n 1, 1) := by decide +kernel
theorem dX3_vividnessOf_10 : decode cX3_vividnessOf 10 = .ok (.iaload, 1) := by decide +kernel
theorem dX3_vividnessOf_11 : decode cX3_vividnessOf 11 = .ok (.ireturn, 1) := by decide +kernel
theorem dX3_nightOf_0 : decode cX3_nightOf 0 = .ok (.aload_n 0, 1) := by decide +kernel
theorem dX3_nightOf_1 : decode cX3_nightOf 1 = .ok (.iload_n 1, 1) := by decide +kernel
theorem dX3_nightOf_2 : decode cX3_nightOf 2 = .ok (.invokevirtual 95, 3) := by decide +kernel
theorem dX3_nightOf_5 : decode cX3_nightOf 5 = .ok (.aload_n 0, 1) := by decide +kernel
theorem dX3_nightOf_6 : decode cX3_nightOf 6 = .ok (.getfield 40, 3) := by decide +kernel
theorem dX3_nightOf_9 : decode cX3_nightOf 9 = .ok (.iload_n 1, 1) := by decide +kernel
theorem dX3_nightOf_10 : decode cX3_nightOf 10 = .ok (.iaload, 1) := by decide +kernel
theorem dX3_nightOf_11 : decode cX3_nightOf 11 = .ok (.ireturn, 1) := by decide +kernel
theorem dX3_matches_0 : decode cX3_matches 0 = .ok (.aload_n 0, 1) := by decide +kernel
theorem dX3_matches_1 : decode cX3_matches 1 = .ok (.iload_n 1, 1) := by decide +kernel
theorem dX3_matches_2 : decode cX3_matches 2 = .ok (.invokevirtual 132, 3) := by decide +kernel
theorem dX3_matches_5 : decode cX3_matches 5 = .ok (.aload_n 0, 1) := by decide +kernel
theorem dX3_matches_6 : decode cX3_matches 6 = .ok (.iload_n 2, 1) := by decide +kernel
theorem dX3_matches_7 : decode cX3_matches 7 = .ok (.invokevirtual 95, 3) := by decide +kernel
theorem dX3_matches_10 : decode cX3_matches 10 = .ok (.iload_n 2, 1) := by decide +kernel
theorem dX3_matches_11 : decode cX3_matches 11 = .ok (.aload_n 0, 1) := by decide +kernel
theorem dX3_matches_12 : decode cX3_matches 12 = .ok (.getfield 19, 3) := by decide +kernel
theorem dX3_matches_15 : decode cX3_matches 15 = .ok (.getfield 151, 3) := by decide +kernel
theorem dX3_matches_18 : decode cX3_matches 18 = .ok (.iload_n 1, 1) := by decide +kernel
theorem dX3_matches_19 : decode cX3_matches 19 = .ok (.iaload, 1) := by decide +kernel
theorem dX3_matches_20 : decode cX3_matches 20 = .ok (.invokestatic 98, 3) := by decide +kernel
theorem dX3_matches_23 : decode cX3_matches 23 = .ok (.ireturn, 1) := by decide +kernel
theorem dX3_matchesOf_0 : decode cX3_matchesOf 0 = .ok (.aload_n 0, 1) := by decide +kernel
theorem dX3_matchesOf_1 : decode cX3_matchesOf 1 = .ok (.iload_n 1, 1) := by decide +kernel
theorem dX3_matchesOf_2 : decode cX3_matchesOf 2 = .ok (.invokevirtual 132, 3) := by decide +kernel
theorem dX3_matchesOf_5 : decode cX3_matchesOf 5 = .ok (.aload_n 0, 1) := by decide +kernel
theorem dX3_matchesOf_6 : decode cX3_matchesOf 6 = .ok (.getfield 19, 3) := by decide +kernel
theorem dX3_matchesOf_9 : decode cX3_matchesOf 9 = .ok (.getfield 151, 3) := by decide +kernel
theorem dX3_matchesOf_12 : decode cX3_matchesOf 12 = .ok (.iload_n 1, 1) := by decide +kernel
theorem dX3_matchesOf_13 : decode cX3_matchesOf 13 = .ok (.iaload, 1) := by decide +kernel
theorem dX3_matchesOf_14 : decode cX3_matchesOf 14 = .ok (.invokestatic 104, 3) := by decide +kernel
theorem dX3_matchesOf_17 : decode cX3_matchesOf 17 = .ok (.ireturn, 1) := by decide +kernel
theorem dX3_commonTags_0 : decode cX3_commonTags 0 = .ok (.aload_n 0, 1) := by decide +kernel
theorem dX3_commonTags_1 : decode cX3_commonTags 1 = .ok (.iload_n 1, 1) := by decide +kernel
theorem dX3_commonTags_2 : decode cX3_commonTags 2 = .ok (.invokevirtual 132, 3) := by decide +kernel
theorem dX3_commonTags_5 : decode cX3_commonTags 5 = .ok (.aload_n 0, 1) := by decide +kernel
theorem dX3_commonTags_6 : decode cX3_commonTags 6 = .ok (.aload_n 0, 1) := by decide +kernel
theorem dX3_commonTags_7 : decode cX3_commonTags 7 = .ok (.getfield 19, 3) := by decide +kernel
theorem dX3_commonTags_10 : decode cX3_commonTags 10 = .ok (.getfield 151, 3) := by decide +kernel
theorem dX3_commonTags_13 : decode cX3_commonTags 13 = .ok (.iload_n 1, 1) := by decide +kernel
theorem dX3_commonTags_14 : decode cX3_commonTags 14 = .ok (.iaload, 1) := by decide +kernel
theorem dX3_commonTags_15 : decode cX3_commonTags 15 = .ok (.invokevirtual 157, 3) := by decide +kernel
theorem dX3_commonTags_18 : decode cX3_commonTags 18 = .ok (.invokestatic 104, 3) := by decide +kernel
theorem dX3_commonTags_21 : decode cX3_commonTags 21 = .ok (.ireturn, 1) := by decide +kernel
theorem dX3_matchSame_0 : decode cX3_matchSame 0 = .ok (.aload_n 0, 1) := by decide +kernel
theorem dX3_matchSame_1 : decode cX3_matchSame 1 = .ok (.iload_n 1, 1) := by decide +kernel
theorem dX3_matchSame_2 : decode cX3_matchSame 2 = .ok (.invokevirtual 132, 3) := by decide +kernel
theorem dX3_matchSame_5 : decode cX3_matchSame 5 = .ok (.aload_n 0, 1) := by decide +kernel
theorem dX3_matchSame_6 : decode cX3_matchSame 6 = .ok (.iload_n 2, 1) := by decide +kernel
theorem dX3_matchSame_7 : decode cX3_matchSame 7 = .ok (.invokevirtual 132, 3) := by decide +kernel
theorem dX3_matchSame_10 : decode cX3_matchSame 10 = .ok (.aload_n 0, 1) := by decide +kernel
theorem dX3_matchSame_11 : decode cX3_matchSame 11 = .ok (.getfield 19, 3) := by decide +kernel
theorem dX3_matchSame_14 : decode cX3_matchSame 14 = .ok (.getfield 151, 3) := by decide +kernel
theorem dX3_matchSame_17 : decode cX3_matchSame 17 = .ok (.iload_n 1, 1) := by decide +kernel
theorem dX3_matchSame_18 : decode cX3_matchSame 18 = .ok (.iaload, 1) := by decide +kernel
theorem dX3_matchSame_19 : decode cX3_matchSame 19 = .ok (.aload_n 0, 1) := by decide +kernel
theorem dX3_matchSame_20 : decode cX3_matchSame 20 = .ok (.getfield 19, 3) := by decide +kernel
theorem dX3_matchSame_23 : decode cX3_matchSame 23 = .ok (.getfield 151, 3) := by decide +kernel
theorem dX3_matchSame_26 : decode cX3_matchSame 26 = .ok (.iload_n 2, 1) := by decide +kernel
theorem dX3_matchSame_27 : decode cX3_matchSame 27 = .ok (.iaload, 1) := by decide +kernel
theorem dX3_matchSame_28 : decode cX3_matchSame 28 = .ok (.if_icmp .ne 7, 3) := by decide +kernel
theorem dX3_matchSame_31 : decode cX3_matchSame 31 = .ok (.iconst 1, 1) := by decide +kernel
theorem dX3_matchSame_32 : decode cX3_matchSame 32 = .ok (.goto 4, 3) := by decide +kernel
theorem dX3_matchSame_35 : decode cX3_matchSame 35 = .ok (.iconst 0, 1) := by decide +kernel
theorem dX3_matchSame_36 : decode cX3_matchSame 36 = .ok (.ireturn, 1) := by decide +kernel
theorem dX3_coverSize_0 : decode cX3_coverSize 0 = .ok (.aload_n 0, 1) := by decide +kernel
theorem dX3_coverSize_1 : decode cX3_coverSize 1 = .ok (.iload_n 1, 1) := by decide +kernel
theorem dX3_coverSize_2 : decode cX3_coverSize 2 = .ok (.invokevirtual 132, 3) := by decide +kernel
theorem dX3_coverSize_5 : decode cX3_coverSize 5 = .ok (.aload_n 0, 1) := by decide +kernel
theorem dX3_coverSize_6 : decode cX3_coverSize 6 = .ok (.iload_n 1, 1) := by decide +kernel
theorem dX3_coverSize_7 : decode cX3_coverSize 7 = .ok (.invokevirtual 160, 3) := by decide +kernel
theorem dX3_coverSize_10 : decode cX3_coverSize 10 = .ok (.invokestatic 104, 3) := by decide +kernel
theorem dX3_coverSize_13 : decode cX3_coverSize 13 = .ok (.ireturn, 1) := by decide +kernel
theorem dX3_tags_0 : decode cX3_tags 0 = .ok (.aload_n 0, 1) := by decide +kernel
theorem dX3_tags_1 : decode cX3_tags 1 = .ok (.getfield 10, 3) := by decide +kernel
theorem dX3_tags_4 : decode cX3_tags 4 = .ok (.getfield 43, 3) := by decide +kernel
theorem dX3_tags_7 : decode cX3_tags 7 = .ok (.ireturn, 1) := by decide +kernel
theorem dX3_dreams_0 : decode cX3_dreams 0 = .ok (.aload_n 0, 1) := by decide +kernel
theorem dX3_dreams_1 : decode cX3_dreams 1 = .ok (.getfield 84, 3) := by decide +kernel
theorem dX3_dreams_4 : decode cX3_dreams 4 = .ok (.ireturn, 1) := by decide +kernel
theorem dX3_terms_0 : decode cX3_terms 0 = .ok (.aload_n 0, 1) := by decide +kernel
theorem dX3_terms_1 : decode cX3_terms 1 = .ok (.getfield 19, 3) := by decide +kernel
theorem dX3_terms_4 : decode cX3_terms 4 = .ok (.getfield 135, 3) := by decide +kernel
theorem dX3_terms_7 : decode cX3_terms 7 = .ok (.ireturn, 1) := by decide +kernel
theorem dX3_nights_0 : decode cX3_nights 0 = .ok (.aload_n 0, 1) := by decide +kernel
theorem dX3_nights_1 : decode cX3_nights 1 = .ok (.getfield 89, 3) := by decide +kernel
theorem dX3_nights_4 : decode cX3_nights 4 = .ok (.ireturn, 1) := by decide +kernel
theorem dX3_fadedDreams_0 : decode cX3_fadedDreams 0 = .ok (.aload_n 0, 1) := by decide +kernel
theorem dX3_fadedDreams_1 : decode cX3_fadedDreams 1 = .ok (.iconst 0, 1) := by decide +kernel
theorem dX3_fadedDreams_2 : decode cX3_fadedDreams 2 = .ok (.invokevirtual 122, 3) := by decide +kernel
theorem dX3_fadedDreams_5 : decode cX3_fadedDreams 5 = .ok (.ireturn, 1) := by decide +kernel
theorem dX3_meanVividness_0 : decode cX3_meanVividness 0 = .ok (.aload_n 0, 1) := by decide +kernel
theorem dX3_meanVividness_1 : decode cX3_meanVividness 1 = .ok (.getfield 84, 3) := by decide +kernel
theorem dX3_meanVividness_4 : decode cX3_meanVividness 4 = .ok (.ifCond .ne 5, 3) := by decide +kernel
theorem dX3_meanVividness_7 : decode cX3_meanVividness 7 = .ok (.dconst 0, 1) := by decide +kernel
theorem dX3_meanVividness_8 : decode cX3_meanVividness 8 = .ok (.dreturn, 1) := by decide +kernel
theorem dX3_meanVividness_9 : decode cX3_meanVividness 9 = .ok (.iconst 0, 1) := by decide +kernel
theorem dX3_meanVividness_10 : decode cX3_meanVividness 10 = .ok (.istore_n 1, 1) := by decide +kernel
theorem dX3_meanVividness_11 : decode cX3_meanVividness 11 = .ok (.iconst 0, 1) := by decide +kernel
theorem dX3_meanVividness_12 : decode cX3_meanVividness 12 = .ok (.istore_n 2, 1) := by decide +kernel
theorem dX3_meanVividness_13 : decode cX3_meanVividness 13 = .ok (.iload_n 2, 1) := by decide +kernel
theorem dX3_meanVividness_14 : decode cX3_meanVividness 14 = .ok (.aload_n 0, 1) := by decide +kernel
theorem dX3_meanVividness_15 : decode cX3_meanVividness 15 = .ok (.getfield 84, 3) := by decide +kernel
theorem dX3_meanVividness_18 : decode cX3_meanVividness 18 = .ok (.if_icmp .ge 18, 3) := by decide +kernel
theorem dX3_meanVividness_21 : decode cX3_meanVividness 21 = .ok (.iload_n 1, 1) := by decide +kernel
theorem dX3_meanVividness_22 : decode cX3_meanVividness 22 = .ok (.aload_n 0, 1) := by decide +kernel
theorem dX3_meanVividness_23 : decode cX3_meanVividness 23 = .ok (.getfield 37, 3) := by decide +kernel
theorem dX3_meanVividness_26 : decode cX3_meanVividness 26 = .ok (.iload_n 2, 1) := by decide +kernel
theorem dX3_meanVividness_27 : decode cX3_meanVividness 27 = .ok (.iaload, 1) := by decide +kernel
theorem dX3_meanVividness_28 : decode cX3_meanVividness 28 = .ok (.iadd, 1) := by decide +kernel
theorem dX3_meanVividness_29 : decode cX3_meanVividness 29 = .ok (.istore_n 1, 1) := by decide +kernel
theorem dX3_meanVividness_30 : decode cX3_meanVividness 30 = .ok (.iinc 2 1, 3) := by decide +kernel
theorem dX3_meanVividness_33 : decode cX3_meanVividness 33 = .ok (.goto (-20), 3) := by decide +kernel
theorem dX3_meanVividness_36 : decode cX3_meanVividness 36 = .ok (.iload_n 1, 1) := by decide +kernel
theorem dX3_meanVividness_37 : decode cX3_meanVividness 37 = .ok (.i2d, 1) := by decide +kernel
theorem dX3_meanVividness_38 : decode cX3_meanVividness 38 = .ok (.aload_n 0, 1) := by decide +kernel
theorem dX3_meanVividness_39 : decode cX3_meanVividness 39 = .ok (.getfield 84, 3) := by decide +kernel
theorem dX3_meanVividness_42 : decode cX3_meanVividness 42 = .ok (.i2d, 1) := by decide +kernel
theorem dX3_meanVividness_43 : decode cX3_meanVividness 43 = .ok (.ddiv, 1) := by decide +kernel
theorem dX3_meanVividness_44 : decode cX3_meanVividness 44 = .ok (.dreturn, 1) := by decide +kernel
theorem dX3_requireTag_0 : decode cX3_requireTag 0 = .ok (.iload_n 1, 1) := by decide +kernel
theorem dX3_requireTag_1 : decode cX3_requireTag 1 = .ok (.ifCond .lt 14, 3) := by decide +kernel
theorem dX3_requireTag_4 : decode cX3_requireTag 4 = .ok (.iload_n 1, 1) := by decide +kernel
theorem dX3_requireTag_5 : decode cX3_requireTag 5 = .ok (.aload_n 0, 1) := by decide +kernel
theorem dX3_requireTag_6 : decode cX3_requireTag 6 = .ok (.getfield 10, 3) := by decide +kernel
theorem dX3_requireTag_9 : decode cX3_requireTag 9 = .ok (.getfield 43, 3) := by decide +kernel
theorem dX3_requireTag_12 : decode cX3_requireTag 12 = .ok (.if_icmp .lt 13, 3) := by decide +kernel
theorem dX3_requireTag_15 : decode cX3_requireTag 15 = .ok (.new 166, 3) := by decide +kernel
theorem dX3_requireTag_18 : decode cX3_requireTag 18 = .ok (.dup, 1) := by decide +kernel
theorem dX3_requireTag_19 : decode cX3_requireTag 19 = .ok (.ldc 193, 2) := by decide +kernel
theorem dX3_requireTag_21 : decode cX3_requireTag 21 = .ok (.invokespecial 170, 3) := by decide +kernel
theorem dX3_requireTag_24 : decode cX3_requireTag 24 = .ok (.athrow, 1) := by decide +kernel
theorem dX3_requireTag_25 : decode cX3_requireTag 25 = .ok (.return_, 1) := by decide +kernel
theorem dX3_requireDream_0 : decode cX3_requireDream 0 = .ok (.iload_n 1, 1) := by decide +kernel
theorem dX3_requireDream_1 : decode cX3_requireDream 1 = .ok (.ifCond .lt 11, 3) := by decide +kernel
theorem dX3_requireDream_4 : decode cX3_requireDream 4 = .ok (.iload_n 1, 1) := by decide +kernel
theorem dX3_requireDream_5 : decode cX3_requireDream 5 = .ok (.aload_n 0, 1) := by decide +kernel
theorem dX3_requireDream_6 : decode cX3_requireDream 6 = .ok (.getfield 84, 3) := by decide +kernel
theorem dX3_requireDream_9 : decode cX3_requireDream 9 = .ok (.if_icmp .lt 13, 3) := by decide +kernel
theorem dX3_requireDream_12 : decode cX3_requireDream 12 = .ok (.new 166, 3) := by decide +kernel
theorem dX3_requireDream_15 : decode cX3_requireDream 15 = .ok (.dup, 1) := by decide +kernel
theorem dX3_requireDream_16 : decode cX3_requireDream 16 = .ok (.ldc 195, 2) := by decide +kernel
theorem dX3_requireDream_18 : decode cX3_requireDream 18 = .ok (.invokespecial 170, 3) := by decide +kernel
theorem dX3_requireDream_21 : decode cX3_requireDream 21 = .ok (.athrow, 1) := by decide +kernel
theorem dX3_requireDream_22 : decode cX3_requireDream 22 = .ok (.return_, 1) := by decide +kernel
theorem dX3_requireTerm_0 : decode cX3_requireTerm 0 = .ok (.iload_n 1, 1) := by decide +kernel
theorem dX3_requireTerm_1 : decode cX3_requireTerm 1 = .ok (.ifCond .lt 14, 3) := by decide +kernel
theorem dX3_requireTerm_4 : decode cX3_requireTerm 4 = .ok (.iload_n 1, 1) := by decide +kernel
theorem dX3_requireTerm_5 : decode cX3_requireTerm 5 = .ok (.aload_n 0, 1) := by decide +kernel
theorem dX3_requireTerm_6 : decode cX3_requireTerm 6 = .ok (.getfield 19, 3) := by decide +kernel
theorem dX3_requireTerm_9 : decode cX3_requireTerm 9 = .ok (.getfield 135, 3) := by decide +kernel
theorem dX3_requireTerm_12 : decode cX3_requireTerm 12 = .ok (.if_icmp .lt 13, 3) := by decide +kernel
theorem dX3_requireTerm_15 : decode cX3_requireTerm 15 = .ok (.new 166, 3) := by decide +kernel
theorem dX3_requireTerm_18 : decode cX3_requireTerm 18 = .ok (.dup, 1) := by decide +kernel
theorem dX3_requireTerm_19 : decode cX3_requireTerm 19 = .ok (.ldc 197, 2) := by decide +kernel
theorem dX3_requireTerm_21 : decode cX3_requireTerm 21 = .ok (.invokespecial 170, 3) := by decide +kernel
theorem dX3_requireTerm_24 : decode cX3_requireTerm 24 = .ok (.athrow, 1) := by decide +kernel
theorem dX3_requireTerm_25 : decode cX3_requireTerm 25 = .ok (.return_, 1) := by decide +kernel
theorem dX3_requireParent_0 : decode cX3_requireParent 0 = .ok (.aload_n 0, 1) := by decide +kernel
theorem dX3_requireParent_1 : decode cX3_requireParent 1 = .ok (.iload_n 1, 1) := by decide +kernel
theorem dX3_requireParent_2 : decode cX3_requireParent 2 = .ok (.invokevirtual 76, 3) := by decide +kernel
theorem dX3_requireParent_5 : decode cX3_requireParent 5 = .ok (.aload_n 0, 1) := by decide +kernel
theorem dX3_requireParent_6 : decode cX3_requireParent 6 = .ok (.getfield 10, 3) := by decide +kernel
theorem dX3_requireParent_9 : decode cX3_requireParent 9 = .ok (.getfield 73, 3) := by decide +kernel
theorem dX3_requireParent_12 : decode cX3_requireParent 12 = .ok (.iload_n 1, 1) := by decide +kernel
theorem dX3_requireParent_13 : decode cX3_requireParent 13 = .ok (.iaload, 1) := by decide +kernel
theorem dX3_requireParent_14 : decode cX3_requireParent 14 = .ok (.iconst (-1), 1) := by decide +kernel
theorem dX3_requireParent_15 : decode cX3_requireParent 15 = .ok (.if_icmp .ne 13, 3) := by decide +kernel
theorem dX3_requireParent_18 : decode cX3_requireParent 18 = .ok (.new 47, 3) := by decide +kernel
theorem dX3_requireParent_21 : decode cX3_requireParent 21 = .ok (.dup, 1) := by decide +kernel
theorem dX3_requireParent_22 : decode cX3_requireParent 22 = .ok (.ldc 199, 2) := by decide +kernel
theorem dX3_requireParent_24 : decode cX3_requireParent 24 = .ok (.invokespecial 51, 3) := by decide +kernel
theorem dX3_requireParent_27 : decode cX3_requireParent 27 = .ok (.athrow, 1) := by decide +kernel
theorem dX3_requireParent_28 : decode cX3_requireParent 28 = .ok (.return_, 1) := by decide +kernel
theorem dX3_requirePlaceUnder_0 : decode cX3_requirePlaceUnder 0 = .ok (.aload_n 0, 1) := by decide +kernel
theorem dX3_requirePlaceUnder_1 : decode cX3_requirePlaceUnder 1 = .ok (.iload_n 1, 1) := by decide +kernel
theorem dX3_requirePlaceUnder_2 : decode cX3_requirePlaceUnder 2 = .ok (.invokevirtual 76, 3) := by decide +kernel
theorem dX3_requirePlaceUnder_5 : decode cX3_requirePlaceUnder 5 = .ok (.aload_n 0, 1) := by decide +kernel
theorem dX3_requirePlaceUnder_6 : decode cX3_requirePlaceUnder 6 = .ok (.iload_n 2, 1) := by decide +kernel
theorem dX3_requirePlaceUnder_7 : decode cX3_requirePlaceUnder 7 = .ok (.invokevirtual 76, 3) := by decide +kernel
theorem dX3_requirePlaceUnder_10 : decode cX3_requirePlaceUnder 10 = .ok (.iload_n 1, 1) := by decide +kernel
theorem dX3_requirePlaceUnder_11 : decode cX3_requirePlaceUnder 11 = .ok (.iload_n 2, 1) := by decide +kernel
theorem dX3_requirePlaceUnder_12 : decode cX3_requirePlaceUnder 12 = .ok (.if_icmp .ne 13, 3) := by decide +kernel
theorem dX3_requirePlaceUnder_15 : decode cX3_requirePlaceUnder 15 = .ok (.new 79, 3) := by decide +kernel
theorem dX3_requirePlaceUnder_18 : decode cX3_requirePlaceUnder 18 = .ok (.dup, 1) := by decide +kernel
theorem dX3_requirePlaceUnder_19 : decode cX3_requirePlaceUnder 19 = .ok (.ldc 201, 2) := by decide +kernel
theorem dX3_requirePlaceUnder_21 : decode cX3_requirePlaceUnder 21 = .ok (.invokespecial 83, 3) := by decide +kernel
theorem dX3_requirePlaceUnder_24 : decode cX3_requirePlaceUnder 24 = .ok (.athrow, 1) := by decide +kernel
theorem dX3_requirePlaceUnder_25 : decode cX3_requirePlaceUnder 25 = .ok (.aload_n 0, 1) := by decide +kernel
theorem dX3_requirePlaceUnder_26 : decode cX3_requirePlaceUnder 26 = .ok (.getfield 10, 3) := by decide +kernel
theorem dX3_requirePlaceUnder_29 : decode cX3_requirePlaceUnder 29 = .ok (.iload_n 1, 1) := by decide +kernel
theorem dX3_requirePlaceUnder_30 : decode cX3_requirePlaceUnder 30 = .ok (.iload_n 2, 1) := by decide +kernel
theorem dX3_requirePlaceUnder_31 : decode cX3_requirePlaceUnder 31 = .ok (.invokevirtual 174, 3) := by decide +kernel
theorem dX3_requirePlaceUnder_34 : decode cX3_requirePlaceUnder 34 = .ok (.ifCond .ne 13, 3) := by decide +kernel
theorem dX3_requirePlaceUnder_37 : decode cX3_requirePlaceUnder 37 = .ok (.new 47, 3) := by decide +kernel
theorem dX3_requirePlaceUnder_40 : decode cX3_requirePlaceUnder 40 = .ok (.dup, 1) := by decide +kernel
theorem dX3_requirePlaceUnder_41 : decode cX3_requirePlaceUnder 41 = .ok (.ldc 203, 2) := by decide +kernel
theorem dX3_requirePlaceUnder_43 : decode cX3_requirePlaceUnder 43 = .ok (.invokespecial 51, 3) := by decide +kernel
theorem dX3_requirePlaceUnder_46 : decode cX3_requirePlaceUnder 46 = .ok (.athrow, 1) := by decide +kernel
theorem dX3_requirePlaceUnder_47 : decode cX3_requirePlaceUnder 47 = .ok (.return_, 1) := by decide +kernel
theorem dX3_requireNights_0 : decode cX3_requireNights 0 = .ok (.iload_n 1, 1) := by decide +kernel
theorem dX3_requireNights_1 : decode cX3_requireNights 1 = .ok (.iconst 1, 1) := by decide +kernel
theorem dX3_requireNights_2 : decode cX3_requireNights 2 = .ok (.if_icmp .lt 9, 3) := by decide +kernel
theorem dX3_requireNights_5 : decode cX3_requireNights 5 = .ok (.iload_n 1, 1) := by decide +kernel
theorem dX3_requireNights_6 : decode cX3_requireNights 6 = .ok (.bipush 30, 2) := by decide +kernel
theorem dX3_requireNights_8 : decode cX3_requireNights 8 = .ok (.if_icmp .le 13, 3) := by decide +kernel
theorem dX3_requireNights_11 : decode cX3_requireNights 11 = .ok (.new 79, 3) := by decide +kernel
theorem dX3_requireNights_14 : decode cX3_requireNights 14 = .ok (.dup, 1) := by decide +kernel
theorem dX3_requireNights_15 : decode cX3_requireNights 15 = .ok (.ldc 205, 2) := by decide +kernel
theorem dX3_requireNights_17 : decode cX3_requireNights 17 = .ok (.invokespecial 83, 3) := by decide +kernel
theorem dX3_requireNights_20 : decode cX3_requireNights 20 = .ok (.athrow, 1) := by decide +kernel
theorem dX3_requireNights_21 : decode cX3_requireNights 21 = .ok (.return_, 1) := by decide +kernel
theorem dX3_requireRoomForTerm_0 : decode cX3_requireRoomForTerm 0 = .ok (.aload_n 0, 1) := by decide +kernel
theorem dX3_requireRoomForTerm_1 : decode cX3_requireRoomForTerm 1 = .ok (.getfield 19, 3) := by decide +kernel
theorem dX3_requireRoomForTerm_4 : decode cX3_requireRoomForTerm 4 = .ok (.getfield 135, 3) := by decide +kernel
theorem dX3_requireRoomForTerm_7 : decode cX3_requireRoomForTerm 7 = .ok (.bipush 20, 2) := by decide +kernel
theorem dX3_requireRoomForTerm_9 : decode cX3_requireRoomForTerm 9 = .ok (.if_icmp .lt 13, 3) := by decide +kernel
theorem dX3_requireRoomForTerm_12 : decode cX3_requireRoomForTerm 12 = .ok (.new 47, 3) := by decide +kernel
theorem dX3_requireRoomForTerm_15 : decode cX3_requireRoomForTerm 15 = .ok (.dup, 1) := by decide +kernel
theorem dX3_requireRoomForTerm_16 : decode cX3_requireRoomForTerm 16 = .ok (.ldc 207, 2) := by decide +kernel
theorem dX3_requireRoomForTerm_18 : decode cX3_requireRoomForTerm 18 = .ok (.invokespecial 51, 3) := by decide +kernel
theorem dX3_requireRoomForTerm_21 : decode cX3_requireRoomForTerm 21 = .ok (.athrow, 1) := by decide +kernel
theorem dX3_requireRoomForTerm_22 : decode cX3_requireRoomForTerm 22 = .ok (.return_, 1) := by decide +kernel
theorem dX3_moveTag_0 : decode cX3_moveTag 0 = .ok (.aload_n 0, 1) := by decide +kernel
theorem dX3_moveTag_1 : decode cX3_moveTag 1 = .ok (.getfield 10, 3) := by decide +kernel
theorem dX3_moveTag_4 : decode cX3_moveTag 4 = .ok (.iload_n 1, 1) := by decide +kernel
theorem dX3_moveTag_5 : decode cX3_moveTag 5 = .ok (.iload_n 2, 1) := by decide +kernel
theorem dX3_moveTag_6 : decode cX3_moveTag 6 = .ok (.invokevirtual 209, 3) := by decide +kernel
theorem dX3_moveTag_9 : decode cX3_moveTag 9 = .ok (.iconst 0, 1) := by decide +kernel
theorem dX3_moveTag_10 : decode cX3_moveTag 10 = .ok (.istore_n 3, 1) := by decide +kernel
theorem dX3_moveTag_11 : decode cX3_moveTag 11 = .ok (.iload_n 3, 1) := by decide +kernel
theorem dX3_moveTag_12 : decode cX3_moveTag 12 = .ok (.aload_n 0, 1) := by decide +kernel
theorem dX3_moveTag_13 : decode cX3_moveTag 13 = .ok (.getfield 84, 3) := by decide +kernel
theorem dX3_moveTag_16 : decode cX3_moveTag 16 = .ok (.if_icmp .ge 28, 3) := by decide +kernel
theorem dX3_moveTag_19 : decode cX3_moveTag 19 = .ok (.aload_n 0, 1) := by decide +kernel
theorem dX3_moveTag_20 : decode cX3_moveTag 20 = .ok (.getfield 34, 3) := by decide +kernel
theorem dX3_moveTag_23 : decode cX3_moveTag 23 = .ok (.iload_n 3, 1) := by decide +kernel
theorem dX3_moveTag_24 : decode cX3_moveTag 24 = .ok (.aload_n 0, 1) := by decide +kernel
theorem dX3_moveTag_25 : decode cX3_moveTag 25 = .ok (.getfield 10, 3) := by decide +kernel
theorem dX3_moveTag_28 : decode cX3_moveTag 28 = .ok (.aload_n 0, 1) := by decide +kernel
theorem dX3_moveTag_29 : decode cX3_moveTag 29 = .ok (.getfield 30, 3) := by decide +kernel
theorem dX3_moveTag_32 : decode cX3_moveTag 32 = .ok (.iload_n 3, 1) := by decide +kernel
theorem dX3_moveTag_33 : decode cX3_moveTag 33 = .ok (.iaload, 1) := by decide +kernel
theorem dX3_moveTag_34 : decode cX3_moveTag 34 = .ok (.invokevirtual 212, 3) := by decide +kernel
theorem dX3_moveTag_37 : decode cX3_moveTag 37 = .ok (.iastore, 1) := by decide +kernel
theorem dX3_moveTag_38 : decode cX3_moveTag 38 = .ok (.iinc 3 1, 3) := by decide +kernel
theorem dX3_moveTag_41 : decode cX3_moveTag 41 = .ok (.goto (-30), 3) := by decide +kernel
theorem dX3_moveTag_44 : decode cX3_moveTag 44 = .ok (.aload_n 0, 1) := by decide +kernel
theorem dX3_moveTag_45 : decode cX3_moveTag 45 = .ok (.invokevirtual 215, 3) := by decide +kernel
theorem dX3_moveTag_48 : decode cX3_moveTag 48 = .ok (.return_, 1) := by decide +kernel
theorem dX3_setOwnTags_0 : decode cX3_setOwnTags 0 = .ok (.aload_n 0, 1) := by decide +kernel
theorem dX3_setOwnTags_1 : decode cX3_setOwnTags 1 = .ok (.getfield 30, 3) := by decide +kernel
theorem dX3_setOwnTags_4 : decode cX3_setOwnTags 4 = .ok (.iload_n 1, 1) := by decide +kernel
theorem dX3_setOwnTags_5 : decode cX3_setOwnTags 5 = .ok (.iload_n 2, 1) := by decide +kernel
theorem dX3_setOwnTags_6 : decode cX3_setOwnTags 6 = .ok (.iastore, 1) := by decide +kernel
theorem dX3_setOwnTags_7 : decode cX3_setOwnTags 7 = .ok (.aload_n 0, 1) := by decide +kernel
theorem dX3_setOwnTags_8 : decode cX3_setOwnTags 8 = .ok (.getfield 34, 3) := by decide +kernel
theorem dX3_setOwnTags_11 : decode cX3_setOwnTags 11 = .ok (.iload_n 1, 1) := by decide +kernel
theorem dX3_setOwnTags_12 : decode cX3_setOwnTags 12 = .ok (.aload_n 0, 1) := by decide +kernel
theorem dX3_setOwnTags_13 : decode cX3_setOwnTags 13 = .ok (.getfield 10, 3) := by decide +kernel
theorem dX3_setOwnTags_16 : decode cX3_setOwnTags 16 = .ok (.iload_n 2, 1) := by decide +kernel
theorem dX3_setOwnTags_17 : decode cX3_setOwnTags 17 = .ok (.invokevirtual 212, 3) := by decide +kernel
theorem dX3_setOwnTags_20 : decode cX3_setOwnTags 20 = .ok (.iastore, 1) := by decide +kernel
theorem dX3_setOwnTags_21 : decode cX3_setOwnTags 21 = .ok (.aload_n 0, 1) := by decide +kernel
theorem dX3_setOwnTags_22 : decode cX3_setOwnTags 22 = .ok (.invokevirtual 215, 3) := by decide +kernel
theorem dX3_setOwnTags_25 : decode cX3_setOwnTags 25 = .ok (.return_, 1) := by decide +kernel
theorem dX3_addTerm_0 : decode cX3_addTerm 0 = .ok (.aload_n 0, 1) := by decide +kernel
theorem dX3_addTerm_1 : decode cX3_addTerm 1 = .ok (.getfield 19, 3) := by decide +kernel
theorem dX3_addTerm_4 : decode cX3_addTerm 4 = .ok (.iload_n 1, 1) := by decide +kernel
theorem dX3_addTerm_5 : decode cX3_addTerm 5 = .ok (.iload_n 2, 1) := by decide +kernel
theorem dX3_addTerm_6 : decode cX3_addTerm 6 = .ok (.iload_n 3, 1) := by decide +kernel
theorem dX3_addTerm_7 : decode cX3_addTerm 7 = .ok (.invokevirtual 218, 3) := by decide +kernel
theorem dX3_addTerm_10 : decode cX3_addTerm 10 = .ok (.istore 4, 2) := by decide +kernel
theorem dX3_addTerm_12 : decode cX3_addTerm 12 = .ok (.aload_n 0, 1) := by decide +kernel
theorem dX3_addTerm_13 : decode cX3_addTerm 13 = .ok (.invokevirtual 215, 3) := by decide +kernel
theorem dX3_addTerm_16 : decode cX3_addTerm 16 = .ok (.iload 4, 2) := by decide +kernel
theorem dX3_addTerm_18 : decode cX3_addTerm 18 = .ok (.ireturn, 1) := by decide +kernel
theorem dX3_rematchTerms_0 : decode cX3_rematchTerms 0 = .ok (.iconst 0, 1) := by decide +kernel
theorem dX3_rematchTerms_1 : decode cX3_rematchTerms 1 = .ok (.istore_n 1, 1) := by decide +kernel
theorem dX3_rematchTerms_2 : decode cX3_rematchTerms 2 = .ok (.iload_n 1, 1) := by decide +kernel
theorem dX3_rematchTerms_3 : decode cX3_rematchTerms 3 = .ok (.aload_n 0, 1) := by decide +kernel
theorem dX3_rematchTerms_4 : decode cX3_rematchTerms 4 = .ok (.getfield 19, 3) := by decide +kernel
theorem dX3_rematchTerms_7 : decode cX3_rematchTerms 7 = .ok (.getfield 135, 3) := by decide +kernel
theorem dX3_rematchTerms_10 : decode cX3_rematchTerms 10 = .ok (.if_icmp .ge 58, 3) := by decide +kernel
theorem dX3_rematchTerms_13 : decode cX3_rematchTerms 13 = .ok (.aload_n 0, 1) := by decide +kernel
theorem dX3_rematchTerms_14 : decode cX3_rematchTerms 14 = .ok (.getfield 19, 3) := by decide +kernel
theorem dX3_rematchTerms_17 : decode cX3_rematchTerms 17 = .ok (.getfield 221, 3) := by decide +kernel
theorem dX3_rematchTerms_20 : decode cX3_rematchTerms 20 = .ok (.iload_n 1, 1) := by decide +kernel
theorem dX3_rematchTerms_21 : decode cX3_rematchTerms 21 = .ok (.iaload, 1) := by decide +kernel
theorem dX3_rematchTerms_22 : decode cX3_rematchTerms 22 = .ok (.ifCond .ne 28, 3) := by decide +kernel
theorem dX3_rematchTerms_25 : decode cX3_rematchTerms 25 = .ok (.aload_n 0, 1) := by decide +kernel
theorem dX3_rematchTerms_26 : decode cX3_rematchTerms 26 = .ok (.getfield 19, 3) := by decide +kernel
theorem dX3_rematchTerms_29 : decode cX3_rematchTerms 29 = .ok (.getfield 151, 3) := by decide +kernel
theorem dX3_rematchTerms_32 : decode cX3_rematchTerms 32 = .ok (.iload_n 1, 1) := by decide +kernel
theorem dX3_rematchTerms_33 : decode cX3_rematchTerms 33 = .ok (.aload_n 0, 1) := by decide +kernel
theorem dX3_rematchTerms_34 : decode cX3_rematchTerms 34 = .ok (.aload_n 0, 1) := by decide +kernel
theorem dX3_rematchTerms_35 : decode cX3_rematchTerms 35 = .ok (.getfield 19, 3) := by decide +kernel
theorem dX3_rematchTerms_38 : decode cX3_rematchTerms 38 = .ok (.getfield 224, 3) := by decide +kernel
theorem dX3_rematchTerms_41 : decode cX3_rematchTerms 41 = .ok (.iload_n 1, 1) := by decide +kernel
theorem dX3_rematchTerms_42 : decode cX3_rematchTerms 42 = .ok (.iaload, 1) := by decide +kernel
theorem dX3_rematchTerms_43 : decode cX3_rematchTerms 43 = .ok (.invokevirtual 148, 3) := by decide +kernel
theorem dX3_rematchTerms_46 : decode cX3_rematchTerms 46 = .ok (.iastore, 1) := by decide +kernel
theorem dX3_rematchTerms_47 : decode cX3_rematchTerms 47 = .ok (.goto 15, 3) := by decide +kernel
theorem dX3_rematchTerms_50 : decode cX3_rematchTerms 50 = .ok (.aload_n 0, 1) := by decide +kernel
theorem dX3_rematchTerms_51 : decode cX3_rematchTerms 51 = .ok (.getfield 19, 3) := by decide +kernel
theorem dX3_rematchTerms_54 : decode cX3_rematchTerms 54 = .ok (.iload_n 1, 1) := by decide +kernel
theorem dX3_rematchTerms_55 : decode cX3_rematchTerms 55 = .ok (.aload_n 0, 1) := by decide +kernel
theorem dX3_rematchTerms_56 : decode cX3_rematchTerms 56 = .ok (.invokevirtual 227, 3) := by decide +kernel
theorem dX3_rematchTerms_59 : decode cX3_rematchTerms 59 = .ok (.invokevirtual 230, 3) := by decide +kernel
theorem dX3_rematchTerms_62 : decode cX3_rematchTerms 62 = .ok (.iinc 1 1, 3) := by decide +kernel
theorem dX3_rematchTerms_65 : decode cX3_rematchTerms 65 = .ok (.goto (-63), 3) := by decide +kernel
theorem dX3_rematchTerms_68 : decode cX3_rematchTerms 68 = .ok (.return_, 1) := by decide +kernel
theorem dX3_allDreams_0 : decode cX3_allDreams 0 = .ok (.iconst 1, 1) := by decide +kernel
theorem dX3_allDreams_1 : decode cX3_allDreams 1 = .ok (.aload_n 0, 1) := by decide +kernel
theorem dX3_allDreams_2 : decode cX3_allDreams 2 = .ok (.getfield 84, 3) := by decide +kernel
theorem dX3_allDreams_5 : decode cX3_allDreams 5 = .ok (.ishl, 1) := by decide +kernel
theorem dX3_allDreams_6 : decode cX3_allDreams 6 = .ok (.iconst 1, 1) := by decide +kernel
theorem dX3_allDreams_7 : decode cX3_allDreams 7 = .ok (.isub, 1) := by decide +kernel
theorem dX3_allDreams_8 : decode cX3_allDreams 8 = .ok (.ireturn, 1) := by decide +kernel
theorem dX3_dreamsHaving_0 : decode cX3_dreamsHaving 0 = .ok (.iconst 0, 1) := by decide +kernel
theorem dX3_dreamsHaving_1 : decode cX3_dreamsHaving 1 = .ok (.istore_n 2, 1) := by decide +kernel
theorem dX3_dreamsHaving_2 : decode cX3_dreamsHaving 2 = .ok (.iconst 0, 1) := by decide +kernel
theorem dX3_dreamsHaving_3 : decode cX3_dreamsHaving 3 = .ok (.istore_n 3, 1) := by decide +kernel
theorem dX3_dreamsHaving_4 : decode cX3_dreamsHaving 4 = .ok (.iload_n 3, 1) := by decide +kernel
theorem dX3_dreamsHaving_5 : decode cX3_dreamsHaving 5 = .ok (.aload_n 0, 1) := by decide +kernel
theorem dX3_dreamsHaving_6 : decode cX3_dreamsHaving 6 = .ok (.getfield 84, 3) := by decide +kernel
theorem dX3_dreamsHaving_9 : decode cX3_dreamsHaving 9 = .ok (.if_icmp .ge 28, 3) := by decide +kernel
theorem dX3_dreamsHaving_12 : decode cX3_dreamsHaving 12 = .ok (.iload_n 1, 1) := by decide +kernel
theorem dX3_dreamsHaving_13 : decode cX3_dreamsHaving 13 = .ok (.aload_n 0, 1) := by decide +kernel
theorem dX3_dreamsHaving_14 : decode cX3_dreamsHaving 14 = .ok (.getfield 34, 3) := by decide +kernel
theorem dX3_dreamsHaving_17 : decode cX3_dreamsHaving 17 = .ok (.iload_n 3, 1) := by decide +kernel
theorem dX3_dreamsHaving_18 : decode cX3_dreamsHaving 18 = .ok (.iaload, 1) := by decide +kernel
theorem dX3_dreamsHaving_19 : decode cX3_dreamsHaving 19 = .ok (.invokestatic 98, 3) := by decide +kernel
theorem dX3_dreamsHaving_22 : decode cX3_dreamsHaving 22 = .ok (.ifCond .eq 9, 3) := by decide +kernel
theorem dX3_dreamsHaving_25 : decode cX3_dreamsHaving 25 = .ok (.iload_n 2, 1) := by decide +kernel
theorem dX3_dreamsHaving_26 : decode cX3_dreamsHaving 26 = .ok (.iconst 1, 1) := by decide +kernel
theorem dX3_dreamsHaving_27 : decode cX3_dreamsHaving 27 = .ok (.iload_n 3, 1) := by decide +kernel
theorem dX3_dreamsHaving_28 : decode cX3_dreamsHaving 28 = .ok (.ishl, 1) := by decide +kernel
theorem dX3_dreamsHaving_29 : decode cX3_dreamsHaving 29 = .ok (.ior, 1) := by decide +kernel
theorem dX3_dreamsHaving_30 : decode cX3_dreamsHaving 30 = .ok (.istore_n 2, 1) := by decide +kernel
theorem dX3_dreamsHaving_31 : decode cX3_dreamsHaving 31 = .ok (.iinc 3 1, 3) := by decide +kernel
theorem dX3_dreamsHaving_34 : decode cX3_dreamsHaving 34 = .ok (.goto (-30), 3) := by decide +kernel
theorem dX3_dreamsHaving_37 : decode cX3_dreamsHaving 37 = .ok (.iload_n 2, 1) := by decide +kernel
theorem dX3_dreamsHaving_38 : decode cX3_dreamsHaving 38 = .ok (.ireturn, 1) := by decide +kernel
theorem dX3_vividnessAfter_0 : decode cX3_vividnessAfter 0 = .ok (.aload_n 0, 1) := by decide +kernel
theorem dX3_vividnessAfter_1 : decode cX3_vividnessAfter 1 = .ok (.getfield 30, 3) := by decide +kernel
theorem dX3_vividnessAfter_4 : decode cX3_vividnessAfter 4 = .ok (.iload_n 1, 1) := by decide +kernel
theorem dX3_vividnessAfter_5 : decode cX3_vividnessAfter 5 = .ok (.iaload, 1) := by decide +kernel
theorem dX3_vividnessAfter_6 : decode cX3_vividnessAfter 6 = .ok (.aload_n 0, 1) := by decide +kernel
theorem dX3_vividnessAfter_7 : decode cX3_vividnessAfter 7 = .ok (.invokevirtual 233, 3) := by decide +kernel
theorem dX3_vividnessAfter_10 : decode cX3_vividnessAfter 10 = .ok (.iand, 1) := by decide +kernel
theorem dX3_vividnessAfter_11 : decode cX3_vividnessAfter 11 = .ok (.ifCond .eq 7, 3) := by decide +kernel
theorem dX3_vividnessAfter_14 : decode cX3_vividnessAfter 14 = .ok (.iconst 1, 1) := by decide +kernel
theorem dX3_vividnessAfter_15 : decode cX3_vividnessAfter 15 = .ok (.goto 4, 3) := by decide +kernel
theorem dX3_vividnessAfter_18 : decode cX3_vividnessAfter 18 = .ok (.iconst 0, 1) := by decide +kernel
theorem dX3_vividnessAfter_19 : decode cX3_vividnessAfter 19 = .ok (.istore_n 3, 1) := by decide +kernel
theorem dX3_vividnessAfter_20 : decode cX3_vividnessAfter 20 = .ok (.iload_n 3, 1) := by decide +kernel
theorem dX3_vividnessAfter_21 : decode cX3_vividnessAfter 21 = .ok (.ifCond .eq 12, 3) := by decide +kernel
theorem dX3_vividnessAfter_24 : decode cX3_vividnessAfter 24 = .ok (.aload_n 0, 1) := by decide +kernel
theorem dX3_vividnessAfter_25 : decode cX3_vividnessAfter 25 = .ok (.getfield 37, 3) := by decide +kernel
theorem dX3_vividnessAfter_28 : decode cX3_vividnessAfter 28 = .ok (.iload_n 1, 1) := by decide +kernel
theorem dX3_vividnessAfter_29 : decode cX3_vividnessAfter 29 = .ok (.iaload, 1) := by decide +kernel
theorem dX3_vividnessAfter_30 : decode cX3_vividnessAfter 30 = .ok (.goto 15, 3) := by decide +kernel
theorem dX3_vividnessAfter_33 : decode cX3_vividnessAfter 33 = .ok (.iconst 0, 1) := by decide +kernel
theorem dX3_vividnessAfter_34 : decode cX3_vividnessAfter 34 = .ok (.aload_n 0, 1) := by decide +kernel
theorem dX3_vividnessAfter_35 : decode cX3_vividnessAfter 35 = .ok (.getfield 37, 3) := by decide +kernel
theorem dX3_vividnessAfter_38 : decode cX3_vividnessAfter 38 = .ok (.iload_n 1, 1) := by decide +kernel
theorem dX3_vividnessAfter_39 : decode cX3_vividnessAfter 39 = .ok (.iaload, 1) := by decide +kernel
theorem dX3_vividnessAfter_40 : decode cX3_vividnessAfter 40 = .ok (.iload_n 2, 1) := by decide +kernel
theorem dX3_vividnessAfter_41 : decode cX3_vividnessAfter 41 = .ok (.isub, 1) := by decide +kernel
theorem dX3_vividnessAfter_42 : decode cX3_vividnessAfter 42 = .ok (.invokestatic 236, 3) := by decide +kernel
theorem dX3_vividnessAfter_45 : decode cX3_vividnessAfter 45 = .ok (.ireturn, 1) := by decide +kernel
theorem dX3_ownTagsOfLatest_0 : decode cX3_ownTagsOfLatest 0 = .ok (.aload_n 0, 1) := by decide +kernel
theorem dX3_ownTagsOfLatest_1 : decode cX3_ownTagsOfLatest 1 = .ok (.getfield 84, 3) := by decide +kernel
theorem dX3_ownTagsOfLatest_4 : decode cX3_ownTagsOfLatest 4 = .ok (.ifCond .ne 7, 3) := by decide +kernel
theorem dX3_ownTagsOfLatest_7 : decode cX3_ownTagsOfLatest 7 = .ok (.iconst 0, 1) := by decide +kernel
theorem dX3_ownTagsOfLatest_8 : decode cX3_ownTagsOfLatest 8 = .ok (.goto 14, 3) := by decide +kernel
theorem dX3_ownTagsOfLatest_11 : decode cX3_ownTagsOfLatest 11 = .ok (.aload_n 0, 1) := by decide +kernel
theorem dX3_ownTagsOfLatest_12 : decode cX3_ownTagsOfLatest 12 = .ok (.getfield 30, 3) := by decide +kernel
theorem dX3_ownTagsOfLatest_15 : decode cX3_ownTagsOfLatest 15 = .ok (.aload_n 0, 1) := by decide +kernel
theorem dX3_ownTagsOfLatest_16 : decode cX3_ownTagsOfLatest 16 = .ok (.getfield 84, 3) := by decide +kernel
theorem dX3_ownTagsOfLatest_19 : decode cX3_ownTagsOfLatest 19 = .ok (.iconst 1, 1) := by decide +kernel
theorem dX3_ownTagsOfLatest_20 : decode cX3_ownTagsOfLatest 20 = .ok (.isub, 1) := by decide +kernel
theorem dX3_ownTagsOfLatest_21 : decode cX3_ownTagsOfLatest 21 = .ok (.iaload, 1) := by decide +kernel
theorem dX3_ownTagsOfLatest_22 : decode cX3_ownTagsOfLatest 22 = .ok (.ireturn, 1) := by decide +kernel
theorem dX3_countFadedAfter_0 : decode cX3_countFadedAfter 0 = .ok (.iconst 0, 1) := by decide +kernel
theorem dX3_countFadedAfter_1 : decode cX3_countFadedAfter 1 = .ok (.istore_n 2, 1) := by decide +kernel
theorem dX3_countFadedAfter_2 : decode cX3_countFadedAfter 2 = .ok (.iconst 0, 1) := by decide +kernel
theorem dX3_countFadedAfter_3 : decode cX3_countFadedAfter 3 = .ok (.istore_n 3, 1) := by decide +kernel
theorem dX3_countFadedAfter_4 : decode cX3_countFadedAfter 4 = .ok (.iload_n 3, 1) := by decide +kernel
theorem dX3_countFadedAfter_5 : decode cX3_countFadedAfter 5 = .ok (.aload_n 0, 1) := by decide +kernel
theorem dX3_countFadedAfter_6 : decode cX3_countFadedAfter 6 = .ok (.getfield 84, 3) := by decide +kernel
theorem dX3_countFadedAfter_9 : decode cX3_countFadedAfter 9 = .ok (.if_icmp .ge 21, 3) := by decide +kernel
theorem dX3_countFadedAfter_12 : decode cX3_countFadedAfter 12 = .ok (.aload_n 0, 1) := by decide +kernel
theorem dX3_countFadedAfter_13 : decode cX3_countFadedAfter 13 = .ok (.iload_n 3, 1) := by decide +kernel
theorem dX3_countFadedAfter_14 : decode cX3_countFadedAfter 14 = .ok (.iload_n 1, 1) := by decide +kernel
theorem dX3_countFadedAfter_15 : decode cX3_countFadedAfter 15 = .ok (.invokevirtual 118, 3) := by decide +kernel
theorem dX3_countFadedAfter_18 : decode cX3_countFadedAfter 18 = .ok (.ifCond .ne 6, 3) := by decide +kernel
theorem dX3_countFadedAfter_21 : decode cX3_countFadedAfter 21 = .ok (.iinc 2 1, 3) := by decide +kernel
theorem dX3_countFadedAfter_24 : decode cX3_countFadedAfter 24 = .ok (.iinc 3 1, 3) := by decide +kernel
theorem dX3_countFadedAfter_27 : decode cX3_countFadedAfter 27 = .ok (.goto (-23), 3) := by decide +kernel
theorem dX3_countFadedAfter_30 : decode cX3_countFadedAfter 30 = .ok (.iload_n 2, 1) := by decide +kernel
theorem dX3_countFadedAfter_31 : decode cX3_countFadedAfter 31 = .ok (.ireturn, 1) := by decide +kernel
theorem dX3_tagsSharedBy_0 : decode cX3_tagsSharedBy 0 = .ok (.iload_n 1, 1) := by decide +kernel
theorem dX3_tagsSharedBy_1 : decode cX3_tagsSharedBy 1 = .ok (.ifCond .ne 7, 3) := by decide +kernel
theorem dX3_tagsSharedBy_4 : decode cX3_tagsSharedBy 4 = .ok (.iconst 0, 1) := by decide +kernel
theorem dX3_tagsSharedBy_5 : decode cX3_tagsSharedBy 5 = .ok (.goto 5, 3) := by decide +kernel
theorem dX3_tagsSharedBy_8 : decode cX3_tagsSharedBy 8 = .ok (.ldc 241, 2) := by decide +kernel
theorem dX3_tagsSharedBy_10 : decode cX3_tagsSharedBy 10 = .ok (.istore_n 2, 1) := by decide +kernel
theorem dX3_tagsSharedBy_11 : decode cX3_tagsSharedBy 11 = .ok (.iconst 0, 1) := by decide +kernel
theorem dX3_tagsSharedBy_12 : decode cX3_tagsSharedBy 12 = .ok (.istore_n 3, 1) := by decide +kernel
theorem dX3_tagsSharedBy_13 : decode cX3_tagsSharedBy 13 = .ok (.iload_n 3, 1) := by decide +kernel
theorem dX3_tagsSharedBy_14 : decode cX3_tagsSharedBy 14 = .ok (.aload_n 0, 1) := by decide +kernel
theorem dX3_tagsSharedBy_15 : decode cX3_tagsSharedBy 15 = .ok (.getfield 84, 3) := by decide +kernel
theorem dX3_tagsSharedBy_18 : decode cX3_tagsSharedBy 18 = .ok (.if_icmp .ge 26, 3) := by decide +kernel
theorem dX3_tagsSharedBy_21 : decode cX3_tagsSharedBy 21 = .ok (.iload_n 3, 1) := by decide +kernel
theorem dX3_tagsSharedBy_22 : decode cX3_tagsSharedBy 22 = .ok (.iload_n 1, 1) := by decide +kernel
theorem dX3_tagsSharedBy_23 : decode cX3_tagsSharedBy 23 = .ok (.invokestatic 98, 3) := by decide +kernel
theorem dX3_tagsSharedBy_26 : decode cX3_tagsSharedBy 26 = .ok (.ifCond .eq 12, 3) := by decide +kernel
theorem dX3_tagsSharedBy_29 : decode cX3_tagsSharedBy 29 = .ok (.iload_n 2, 1) := by decide +kernel
theorem dX3_tagsSharedBy_30 : decode cX3_tagsSharedBy 30 = .ok (.aload_n 0, 1) := by decide +kernel
theorem dX3_tagsSharedBy_31 : decode cX3_tagsSharedBy 31 = .ok (.getfield 34, 3) := by decide +kernel
theorem dX3_tagsSharedBy_34 : decode cX3_tagsSharedBy 34 = .ok (.iload_n 3, 1) := by decide +kernel
theorem dX3_tagsSharedBy_35 : decode cX3_tagsSharedBy 35 = .ok (.iaload, 1) := by decide +kernel
theorem dX3_tagsSharedBy_36 : decode cX3_tagsSharedBy 36 = .ok (.iand, 1) := by decide +kernel
theorem dX3_tagsSharedBy_37 : decode cX3_tagsSharedBy 37 = .ok (.istore_n 2, 1) := by decide +kernel
theorem dX3_tagsSharedBy_38 : decode cX3_tagsSharedBy 38 = .ok (.iinc 3 1, 3) := by decide +kernel
theorem dX3_tagsSharedBy_41 : decode cX3_tagsSharedBy 41 = .ok (.goto (-28), 3) := by decide +kernel
theorem dX3_tagsSharedBy_44 : decode cX3_tagsSharedBy 44 = .ok (.iload_n 2, 1) := by decide +kernel
theorem dX3_tagsSharedBy_45 : decode cX3_tagsSharedBy 45 = .ok (.ireturn, 1) := by decide +kernel
theorem dX3_smallestCover_0 : decode cX3_smallestCover 0 = .ok (.aload_n 0, 1) := by decide +kernel
theorem dX3_smallestCover_1 : decode cX3_smallestCover 1 = .ok (.getfield 19, 3) := by decide +kernel
theorem dX3_smallestCover_4 : decode cX3_smallestCover 4 = .ok (.getfield 151, 3) := by decide +kernel
theorem dX3_smallestCover_7 : decode cX3_smallestCover 7 = .ok (.iload_n 1, 1) := by decide +kernel
theorem dX3_smallestCover_8 : decode cX3_smallestCover 8 = .ok (.iaload, 1) := by decide +kernel
theorem dX3_smallestCover_9 : decode cX3_smallestCover 9 = .ok (.istore_n 2, 1) := by decide +kernel
theorem dX3_smallestCover_10 : decode cX3_smallestCover 10 = .ok (.iconst 0, 1) := by decide +kernel
theorem dX3_smallestCover_11 : decode cX3_smallestCover 11 = .ok (.istore_n 3, 1) := by decide +kernel
theorem dX3_smallestCover_12 : decode cX3_smallestCover 12 = .ok (.iload_n 3, 1) := by decide +kernel
theorem dX3_smallestCover_13 : decode cX3_smallestCover 13 = .ok (.bipush 16, 2) := by decide +kernel
theorem dX3_smallestCover_15 : decode cX3_smallestCover 15 = .ok (.if_icmp .ge 25, 3) := by decide +kernel
theorem dX3_smallestCover_18 : decode cX3_smallestCover 18 = .ok (.aload_n 0, 1) := by decide +kernel
theorem dX3_smallestCover_19 : decode cX3_smallestCover 19 = .ok (.getfield 26, 3) := by decide +kernel
theorem dX3_smallestCover_22 : decode cX3_smallestCover 22 = .ok (.getfield 242, 3) := by decide +kernel
theorem dX3_smallestCover_25 : decode cX3_smallestCover 25 = .ok (.iload_n 3, 1) := by decide +kernel
theorem dX3_smallestCover_26 : decode cX3_smallestCover 26 = .ok (.aload_n 0, 1) := by decide +kernel
theorem dX3_smallestCover_27 : decode cX3_smallestCover 27 = .ok (.iload_n 3, 1) := by decide +kernel
theorem dX3_smallestCover_28 : decode cX3_smallestCover 28 = .ok (.invokevirtual 148, 3) := by decide +kernel
theorem dX3_smallestCover_31 : decode cX3_smallestCover 31 = .ok (.iload_n 2, 1) := by decide +kernel
theorem dX3_smallestCover_32 : decode cX3_smallestCover 32 = .ok (.iand, 1) := by decide +kernel
theorem dX3_smallestCover_33 : decode cX3_smallestCover 33 = .ok (.iastore, 1) := by decide +kernel
theorem dX3_smallestCover_34 : decode cX3_smallestCover 34 = .ok (.iinc 3 1, 3) := by decide +kernel
theorem dX3_smallestCover_37 : decode cX3_smallestCover 37 = .ok (.goto (-25), 3) := by decide +kernel
theorem dX3_smallestCover_40 : decode cX3_smallestCover 40 = .ok (.aload_n 0, 1) := by decide +kernel
theorem dX3_smallestCover_41 : decode cX3_smallestCover 41 = .ok (.getfield 26, 3) := by decide +kernel
theorem dX3_smallestCover_44 : decode cX3_smallestCover 44 = .ok (.iload_n 2, 1) := by decide +kernel
theorem dX3_smallestCover_45 : decode cX3_smallestCover 45 = .ok (.invokevirtual 245, 3) := by decide +kernel
theorem dX3_smallestCover_48 : decode cX3_smallestCover 48 = .ok (.ireturn, 1) := by decide +kernel
theorem dX3_isIn_0 : decode cX3_isIn 0 = .ok (.iload_n 1, 1) := by decide +kernel
theorem dX3_isIn_1 : decode cX3_isIn 1 = .ok (.iload_n 0, 1) := by decide +kernel
theorem dX3_isIn_2 : decode cX3_isIn 2 = .ok (.ishr, 1) := by decide +kernel
theorem dX3_isIn_3 : decode cX3_isIn 3 = .ok (.iconst 1, 1) := by decide +kernel
theorem dX3_isIn_4 : decode cX3_isIn 4 = .ok (.iand, 1) := by decide +kernel
theorem dX3_isIn_5 : decode cX3_isIn 5 = .ok (.ifCond .eq 7, 3) := by decide +kernel
theorem dX3_isIn_8 : decode cX3_isIn 8 = .ok (.iconst 1, 1) := by decide +kernel
theorem dX3_isIn_9 : decode cX3_isIn 9 = .ok (.goto 4, 3) := by decide +kernel
theorem dX3_isIn_12 : decode cX3_isIn 12 = .ok (.iconst 0, 1) := by decide +kernel
theorem dX3_isIn_13 : decode cX3_isIn 13 = .ok (.ireturn, 1) := by decide +kernel
theorem dX4_init_0 : decode cX4_init 0 = .ok (.aload_n 0, 1) := by decide +kernel
theorem dX4_init_1 : decode cX4_init 1 = .ok (.invokespecial 1, 3) := by decide +kernel
theorem dX4_init_4 : decode cX4_init 4 = .ok (.aload_n 0, 1) := by decide +kernel
theorem dX4_init_5 : decode cX4_init 5 = .ok (.bipush 16, 2) := by decide +kernel
theorem dX4_init_7 : decode cX4_init 7 = .ok (.newarray .int, 2) := by decide +kernel
theorem dX4_init_9 : decode cX4_init 9 = .ok (.putfield 7, 3) := by decide +kernel
theorem dX4_init_12 : decode cX4_init 12 = .ok (.aload_n 0, 1) := by decide +kernel
theorem dX4_init_13 : decode cX4_init 13 = .ok (.bipush 24, 2) := by decide +kernel
theorem dX4_init_15 : decode cX4_init 15 = .ok (.bipush 16, 2) := by decide +kernel
theorem dX4_init_17 : decode cX4_init 17 = .ok (.multianewarray 13 2, 4) := by decide +kernel
theorem dX4_init_21 : decode cX4_init 21 = .ok (.putfield 15, 3) := by decide +kernel
theorem dX4_init_24 : decode cX4_init 24 = .ok (.aload_n 0, 1) := by decide +kernel
theorem dX4_init_25 : decode cX4_init 25 = .ok (.bipush 24, 2) := by decide +kernel
theorem dX4_init_27 : decode cX4_init 27 = .ok (.newarray .int, 2) := by decide +kernel
theorem dX4_init_29 : decode cX4_init 29 = .ok (.putfield 18, 3) := by decide +kernel
theorem dX4_init_32 : decode cX4_init 32 = .ok (.aload_n 0, 1) := by decide +kernel
theorem dX4_init_33 : decode cX4_init 33 = .ok (.bipush 24, 2) := by decide +kernel
theorem dX4_init_35 : decode cX4_init 35 = .ok (.newarray .int, 2) := by decide +kernel
theorem dX4_init_37 : decode cX4_init 37 = .ok (.putfield 21, 3) := by decide +kernel
theorem dX4_init_40 : decode cX4_init 40 = .ok (.aload_n 0, 1) := by decide +kernel
theorem dX4_init_41 : decode cX4_init 41 = .ok (.bipush 20, 2) := by decide +kernel
theorem dX4_init_43 : decode cX4_init 43 = .ok (.anewarray 24, 3) := by decide +kernel
theorem dX4_init_46 : decode cX4_init 46 = .ok (.putfield 25, 3) := by decide +kernel
theorem dX4_init_49 : decode cX4_init 49 = .ok (.return_, 1) := by decide +kernel
theorem dX4_isBelow_0 : decode cX4_isBelow 0 = .ok (.aload_n 0, 1) := by decide +kernel
theorem dX4_isBelow_1 : decode cX4_isBelow 1 = .ok (.getfield 7, 3) := by decide +kernel
theorem dX4_isBelow_4 : decode cX4_isBelow 4 = .ok (.iload_n 1, 1) := by decide +kernel
theorem dX4_isBelow_5 : decode cX4_isBelow 5 = .ok (.iaload, 1) := by decide +kernel
theorem dX4_isBelow_6 : decode cX4_isBelow 6 = .ok (.istore_n 3, 1) := by decide +kernel
theorem dX4_isBelow_7 : decode cX4_isBelow 7 = .ok (.iload_n 3, 1) := by decide +kernel
theorem dX4_isBelow_8 : decode cX4_isBelow 8 = .ok (.ifCond .lt 20, 3) := by decide +kernel
theorem dX4_isBelow_11 : decode cX4_isBelow 11 = .ok (.iload_n 3, 1) := by decide +kernel
theorem dX4_isBelow_12 : decode cX4_isBelow 12 = .ok (.iload_n 2, 1) := by decide +kernel
theorem dX4_isBelow_13 : decode cX4_isBelow 13 = .ok (.if_icmp .ne 5, 3) := by decide +kernel
theorem dX4_isBelow_16 : decode cX4_isBelow 16 = .ok (.iconst 1, 1) := by decide +kernel
theorem dX4_isBelow_17 : decode cX4_isBelow 17 = .ok (.ireturn, 1) := by decide +kernel
theorem dX4_isBelow_18 : decode cX4_isBelow 18 = .ok (.aload_n 0, 1) := by decide +kernel
theorem dX4_isBelow_19 : decode cX4_isBelow 19 = .ok (.getfield 7, 3) := by decide +kernel
theorem dX4_isBelow_22 : decode cX4_isBelow 22 = .ok (.iload_n 3, 1) := by decide +kernel
theorem dX4_isBelow_23 : decode cX4_isBelow 23 = .ok (.iaload, 1) := by decide +kernel
theorem dX4_isBelow_24 : decode cX4_isBelow 24 = .ok (.istore_n 3, 1) := by decide +kernel
theorem dX4_isBelow_25 : decode cX4_isBelow 25 = .ok (.goto (-18), 3) := by decide +kernel
theorem dX4_isBelow_28 : decode cX4_isBelow 28 = .ok (.iconst 0, 1) := by decide +kernel
theorem dX4_isBelow_29 : decode cX4_isBelow 29 = .ok (.ireturn, 1) := by decide +kernel
theorem dX4_hasTag_0 : decode cX4_hasTag 0 = .ok (.iconst 0, 1) := by decide +kernel
theorem dX4_hasTag_1 : decode cX4_hasTag 1 = .ok (.istore_n 3, 1) := by decide +kernel
theorem dX4_hasTag_2 : decode cX4_hasTag 2 = .ok (.iload_n 3, 1) := by decide +kernel
theorem dX4_hasTag_3 : decode cX4_hasTag 3 = .ok (.aload_n 0, 1) := by decide +kernel
theorem dX4_hasTag_4 : decode cX4_hasTag 4 = .ok (.getfield 29, 3) := by decide +kernel
theorem dX4_hasTag_7 : decode cX4_hasTag 7 = .ok (.if_icmp .ge 36, 3) := by decide +kernel
theorem dX4_hasTag_10 : decode cX4_hasTag 10 = .ok (.aload_n 0, 1) := by decide +kernel
theorem dX4_hasTag_11 : decode cX4_hasTag 11 = .ok (.getfield 15, 3) := by decide +kernel
theorem dX4_hasTag_14 : decode cX4_hasTag 14 = .ok (.iload_n 1, 1) := by decide +kernel
theorem dX4_hasTag_15 : decode cX4_hasTag 15 = .ok (.aaload, 1) := by decide +kernel
theorem dX4_hasTag_16 : decode cX4_hasTag 16 = .ok (.iload_n 3, 1) := by decide +kernel
theorem dX4_hasTag_17 : decode cX4_hasTag 17 = .ok (.baload, 1) := by decide +kernel
theorem dX4_hasTag_18 : decode cX4_hasTag 18 = .ok (.ifCond .eq 19, 3) := by decide +kernel
theorem dX4_hasTag_21 : decode cX4_hasTag 21 = .ok (.iload_n 3, 1) := by decide +kernel
theorem dX4_hasTag_22 : decode cX4_hasTag 22 = .ok (.iload_n 2, 1) := by decide +kernel
theorem dX4_hasTag_23 : decode cX4_hasTag 23 = .ok (.if_icmp .eq 12, 3) := by decide +kernel
theorem dX4_hasTag_26 : decode cX4_hasTag 26 = .ok (.aload_n 0, 1) := by decide +kernel
theorem dX4_hasTag_27 : decode cX4_hasTag 27 = .ok (.iload_n 3, 1) := by decide +kernel
theorem dX4_hasTag_28 : decode cX4_hasTag 28 = .ok (.iload_n 2, 1) := by decide +kernel
theorem dX4_hasTag_29 : decode cX4_hasTag 29 = .ok (.invokevirtual 33, 3) := by decide +kernel
theorem dX4_hasTag_32 : decode cX4_hasTag 32 = .ok (.ifCond .eq 5, 3) := by decide +kernel
theorem dX4_hasTag_35 : decode cX4_hasTag 35 = .ok (.iconst 1, 1) := by decide +kernel
theorem dX4_hasTag_36 : decode cX4_hasTag 36 = .ok (.ireturn, 1) := by decide +kernel
theorem dX4_hasTag_37 : decode cX4_hasTag 37 = .ok (.iinc 3 1, 3) := by decide +kernel
theorem dX4_hasTag_40 : decode cX4_hasTag 40 = .ok (.goto (-38), 3) := by decide +kernel
theorem dX4_hasTag_43 : decode cX4_hasTag 43 = .ok (.iconst 0, 1) := by decide +kernel
theorem dX4_hasTag_44 : decode cX4_hasTag 44 = .ok (.ireturn, 1) := by decide +kernel
theorem dX4_ownTags_0 : decode cX4_ownTags 0 = .ok (.iconst 0, 1) := by decide +kernel
theorem dX4_ownTags_1 : decode cX4_ownTags 1 = .ok (.istore_n 2, 1) := by decide +kernel
theorem dX4_ownTags_2 : decode cX4_ownTags 2 = .ok (.aload_n 0, 1) := by decide +kernel
theorem dX4_ownTags_3 : decode cX4_ownTags 3 = .ok (.getfield 15, 3) := by decide +kernel
theorem dX4_ownTags_6 : decode cX4_ownTags 6 = .ok (.iload_n 1, 1) := by decide +kernel
theorem dX4_ownTags_7 : decode cX4_ownTags 7 = .ok (.aaload, 1) := by decide +kernel
theorem dX4_ownTags_8 : decode cX4_ownTags 8 = .ok (.astore_n 3, 1) := by decide +kernel
theorem dX4_ownTags_9 : decode cX4_ownTags 9 = .ok (.aload_n 3, 1) := by decide +kernel
theorem dX4_ownTags_10 : decode cX4_ownTags 10 = .ok (.arraylength, 1) := by decide +kernel
theorem dX4_ownTags_11 : decode cX4_ownTags 11 = .ok (.istore 4, 2) := by decide +kernel
theorem dX4_ownTags_13 : decode cX4_ownTags 13 = .ok (.iconst 0, 1) := by decide +kernel
theorem dX4_ownTags_14 : decode cX4_ownTags 14 = .ok (.istore 5, 2) := by decide +kernel
theorem dX4_ownTags_16 : decode cX4_ownTags 16 = .ok (.iload 5, 2) := by decide +kernel
theorem dX4_ownTags_18 : decode cX4_ownTags 18 = .ok (.iload 4, 2) := by decide +kernel
theorem dX4_ownTags_20 : decode cX4_ownTags 20 = .ok (.if_icmp .ge 28, 3) := by decide +kernel
theorem dX4_ownTags_23 : decode cX4_ownTags 23 = .ok (.aload_n 3, 1) := by decide +kernel
theorem dX4_ownTags_24 : decode cX4_ownTags 24 = .ok (.iload 5, 2) := by decide +kernel
theorem dX4_ownTags_26 : decode cX4_ownTags 26 = .ok (.baload, 1) := by decide +kernel
theorem dX4_ownTags_27 : decode cX4_ownTags 27 = .ok (.istore 6, 2) := by decide +kernel
theorem dX4_ownTags_29 : decode cX4_ownTags 29 = .ok (.iload_n 2, 1) := by decide +kernel
theorem dX4_ownTags_30 : decode cX4_ownTags 30 = .ok (.iload 6, 2) := by decide +kernel
theorem dX4_ownTags_32 : decode cX4_ownTags 32 = .ok (.ifCond .eq 7, 3) := by decide +kernel
theorem dX4_ownTags_35 : decode cX4_ownTags 35 = .ok (.iconst 1, 1) := by decide +kernel
theorem dX4_ownTags_36 : decode cX4_ownTags 36 = .ok (.goto 4, 3) := by decide +kernel
theorem dX4_ownTags_39 : decode cX4_ownTags 39 = .ok (.iconst 0, 1) := by decide +kernel
theorem dX4_ownTags_40 : decode cX4_ownTags 40 = .ok (.iadd, 1) := by decide +kernel
theorem dX4_ownTags_41 : decode cX4_ownTags 41 = .ok (.istore_n 2, 1) := by decide +kernel
theorem dX4_ownTags_42 : decode cX4_ownTags 42 = .ok (.iinc 5 1, 3) := by decide +kernel
theorem dX4_ownTags_45 : decode cX4_ownTags 45 = .ok (.goto (-29), 3) := by decide +kernel
theorem dX4_ownTags_48 : decode cX4_ownTags 48 = .ok (.iload_n 2, 1) := by decide +kernel
theorem dX4_ownTags_49 : decode cX4_ownTags 49 = .ok (.ireturn, 1) := by decide +kernel
theorem dX4_matches_0 : decode cX4_matches 0 = .ok (.aload_n 0, 1) := by decide +kernel
theorem dX4_matches_1 : decode cX4_matches 1 = .ok (.getfield 37, 3) := by decide +kernel
theorem dX4_matches_4 : decode cX4_matches 4 = .ok (.aload_n 0, 1) := by decide +kernel
theorem dX4_matches_5 : decode cX4_matches 5 = .ok (.getfield 40, 3) := by decide +kernel
theorem dX4_matches_8 : decode cX4_matches 8 = .ok (.multianewarray 13 2, 4) := by decide +kernel
theorem dX4_matches_12 : decode cX4_matches 12 = .ok (.astore_n 1, 1) := by decide +kernel
theorem dX4_matches_13 : decode cX4_matches 13 = .ok (.iconst 0, 1) := by decide +kernel
theorem dX4_matches_14 : decode cX4_matches 14 = .ok (.istore_n 2, 1) := by decide +kernel
theorem dX4_matches_15 : decode cX4_matches 15 = .ok (.iload_n 2, 1) := by decide +kernel
theorem dX4_matches_16 : decode cX4_matches 16 = .ok (.aload_n 0, 1) := by decide +kernel
theorem dX4_matches_17 : decode cX4_matches 17 = .ok (.getfield 37, 3) := by decide +kernel
theorem dX4_matches_20 : decode cX4_matches 20 = .ok (.if_icmp .ge 148, 3) := by decide +kernel
theorem dX4_matches_23 : decode cX4_matches 23 = .ok (.aload_n 0, 1) := by decide +kernel
theorem dX4_matches_24 : decode cX4_matches 24 = .ok (.getfield 25, 3) := by decide +kernel
theorem dX4_matches_27 : decode cX4_matches 27 = .ok (.iload_n 2, 1) := by decide +kernel
theorem dX4_matches_28 : decode cX4_matches 28 = .ok (.aaload, 1) := by decide +kernel
theorem dX4_matches_29 : decode cX4_matches 29 = .ok (.astore_n 3, 1) := by decide +kernel
theorem dX4_matches_30 : decode cX4_matches 30 = .ok (.iconst 0, 1) := by decide +kernel
theorem dX4_matches_31 : decode cX4_matches 31 = .ok (.istore 4, 2) := by decide +kernel
theorem dX4_matches_33 : decode cX4_matches 33 = .ok (.iload 4, 2) := by decide +kernel
theorem dX4_matches_35 : decode cX4_matches 35 = .ok (.aload_n 0, 1) := by decide +kernel
theorem dX4_matches_36 : decode cX4_matches 36 = .ok (.getfield 40, 3) := by decide +kernel
theorem dX4_matches_39 : decode cX4_matches 39 = .ok (.if_icmp .ge 123, 3) := by decide +kernel
theorem dX4_matches_42 : decode cX4_matches 42 = .ok (.aload_n 1, 1) := by decide +kernel
theorem dX4_matches_43 : decode cX4_matches 43 = .ok (.iload_n 2, 1) := by decide +kernel
theorem dX4_matches_44 : decode cX4_matches 44 = .ok (.aaload, 1) := by decide +kernel
theorem dX4_matches_45 : decode cX4_matches 45 = .ok (.iload 4, 2) := by decide +kernel
theorem dX4_matches_47 : decode cX4_matches 47 = .ok (.aload_n 3, 1) := by decide +kernel
theorem dX4_matches_48 : decode cX4_matches 48 = .ok (.iconst 0, 1) := by decide +kernel
theorem dX4_matches_49 : decode cX4_matches 49 = .ok (.iaload, 1) := by decide +kernel
theorem dX4_matches_50 : decode cX4_matches 50 = .ok (.ifCond .ne 15, 3) := by decide +kernel
theorem dX4_matches_53 : decode cX4_matches 53 = .ok (.aload_n 0, 1) := by decide +kernel
theorem dX4_matches_54 : decode cX4_matches 54 = .ok (.iload 4, 2) := by decide +kernel
theorem dX4_matches_56 : decode cX4_matches 56 = .ok (.aload_n 3, 1) := by decide +kernel
theorem dX4_matches_57 : decode cX4_matches 57 = .ok (.iconst 1, 1) := by decide +kernel
theorem dX4_matches_58 : decode cX4_matches 58 = .ok (.iaload, 1) := by decide +kernel
theorem dX4_matches_59 : decode cX4_matches 59 = .ok (.invokevirtual 43, 3) := by decide +kernel
theorem dX4_matches_62 : decode cX4_matches 62 = .ok (.goto 93, 3) := by decide +kernel
theorem dX4_matches_65 : decode cX4_matches 65 = .ok (.aload_n 3, 1) := by decide +kernel
theorem dX4_matches_66 : decode cX4_matches 66 = .ok (.iconst 0, 1) := by decide +kernel
theorem dX4_matches_67 : decode cX4_matches 67 = .ok (.iaload, 1) := by decide +kernel
theorem dX4_matches_68 : decode cX4_matches 68 = .ok (.iconst 3, 1) := by decide +kernel
theorem dX4_matches_69 : decode cX4_matches 69 = .ok (.if_icmp .ne 22, 3) := by decide +kernel
theorem dX4_matches_72 : decode cX4_matches 72 = .ok (.aload_n 1, 1) := by decide +kernel
theorem dX4_matches_73 : decode cX4_matches 73 = .ok (.aload_n 3, 1) := by decide +kernel
theorem dX4_matches_74 : decode cX4_matches 74 = .ok (.iconst 1, 1) := by decide +kernel
theorem dX4_matches_75 : decode cX4_matches 75 = .ok (.iaload, 1) := by decide +kernel
theorem dX4_matches_76 : decode cX4_matches 76 = .ok (.aaload, 1) := by decide +kernel
theorem dX4_matches_77 : decode cX4_matches 77 = .ok (.iload 4, 2) := by decide +kernel
theorem dX4_matches_79 : decode cX4_matches 79 = .ok (.baload, 1) := by decide +kernel
theorem dX4_matches_80 : decode cX4_matches 80 = .ok (.ifCond .ne 7, 3) := by decide +kernel
theorem dX4_matches_83 : decode cX4_matches 83 = .ok (.iconst 1, 1) := by decide +kernel
theorem dX4_matches_84 : decode cX4_matches 84 = .ok (.goto 71, 3) := by decide +kernel
theorem dX4_matches_87 : decode cX4_matches 87 = .ok (.iconst 0, 1) := by decide +kernel
theorem dX4_matches_88 : decode cX4_matches 88 = .ok (.goto 67, 3) := by decide +kernel
theorem dX4_matches_91 : decode cX4_matches 91 = .ok (.aload_n 3, 1) := by decide +kernel
theorem dX4_matches_92 : decode cX4_matches 92 = .ok (.iconst 0, 1) := by decide +kernel
theorem dX4_matches_93 : decode cX4_matches 93 = .ok (.iaload, 1) := by decide +kernel
theorem dX4_matches_94 : decode cX4_matches 94 = .ok (.iconst 1, 1) := by decide +kernel
theorem dX4_matches_95 : decode cX4_matches 95 = .ok (.if_icmp .ne 33, 3) := by decide +kernel
theorem dX4_matches_98 : decode cX4_matches 98 = .ok (.aload_n 1, 1) := by decide +kernel
theorem dX4_matches_99 : decode cX4_matches 99 = .ok (.aload_n 3, 1) := by decide +kernel
theorem dX4_matches_100 : decode cX4_matches 100 = .ok (.iconst 1, 1) := by decide +kernel
theorem dX4_matches_101 : decode cX4_matches 101 = .ok (.iaload, 1) := by decide +kernel
theorem dX4_matches_102 : decode cX4_matches 102 = .ok (.aaload, 1) := by decide +kernel
theorem dX4_matches_103 : decode cX4_matches 103 = .ok (.iload 4, 2) := by decide +kernel
theorem dX4_matches_105 : decode cX4_matches 105 = .ok (.baload, 1) := by decide +kernel
theorem dX4_matches_106 : decode cX4_matches 106 = .ok (.ifCond .eq 18, 3) := by decide +kernel
theorem dX4_matches_109 : decode cX4_matches 109 = .ok (.aload_n 1, 1) := by decide +kernel
theorem dX4_matches_110 : decode cX4_matches 110 = .ok (.aload_n 3, 1) := by decide +kernel
theorem dX4_matches_111 : decode cX4_matches 111 = .ok (.iconst 2, 1) := by decide +kernel
theorem dX4_matches_112 : decode cX4_matches 112 = .ok (.iaload, 1) := by decide +kernel
theorem dX4_matches_113 : decode cX4_matches 113 = .ok (.aaload, 1) := by decide +kernel
theorem dX4_matches_114 : decode cX4_matches 114 = .ok (.iload 4, 2) := by decide +kernel
theorem dX4_matches_116 : decode cX4_matches 116 = .ok (.baload, 1) := by decide +kernel
theorem dX4_matches_117 : decode cX4_matches 117 = .ok (.ifCond .eq 7, 3) := by decide +kernel
theorem dX4_matches_120 : decode cX4_matches 120 = .ok (.iconst 1, 1) := by decide +kernel
theorem dX4_matches_121 : decode cX4_matches 121 = .ok (.goto 34, 3) := by decide +kernel
theorem dX4_matches_124 : decode cX4_matches 124 = .ok (.iconst 0, 1) := by decide +kernel
theorem dX4_matches_125 : decode cX4_matches 125 = .ok (.goto 30, 3) := by decide +kernel
theorem dX4_matches_128 : decode cX4_matches 128 = .ok (.aload_n 1, 1) := by decide +kernel
theorem dX4_matches_129 : decode cX4_matches 129 = .ok (.aload_n 3, 1) := by decide +kernel
theorem dX4_matches_130 : decode cX4_matches 130 = .ok (.iconst 1, 1) := by decide +kernel
theorem dX4_matches_131 : decode cX4_matches 131 = .ok (.iaload, 1) := by decide +kernel
theorem dX4_matches_132 : decode cX4_matches 132 = .ok (.aaload, 1) := by decide +kernel
theorem dX4_matches_133 : decode cX4_matches 133 = .ok (.iload 4, 2) := by decide +kernel
theorem dX4_matches_135 : decode cX4_matches 135 = .ok (.baload, 1) := by decide +kernel
theorem dX4_matches_136 : decode cX4_matches 136 = .ok (.ifCond .ne 14, 3) := by decide +kernel
theorem dX4_matches_139 : decode cX4_matches 139 = .ok (.aload_n 1, 1) := by decide +kernel
theorem dX4_matches_140 : decode cX4_matches 140 = .ok (.aload_n 3, 1) := by decide +kernel
theorem dX4_matches_141 : decode cX4_matches 141 = .ok (.iconst 2, 1) := by decide +kernel
theorem dX4_matches_142 : decode cX4_matches 142 = .ok (.iaload, 1) := by decide +kernel
theorem dX4_matches_143 : decode cX4_matches 143 = .ok (.aaload, 1) := by decide +kernel
theorem dX4_matches_144 : decode cX4_matches 144 = .ok (.iload 4, 2) := by decide +kernel
theorem dX4_matches_146 : decode cX4_matches 146 = .ok (.baload, 1) := by decide +kernel
theorem dX4_matches_147 : decode cX4_matches 147 = .ok (.ifCond .eq 7, 3) := by decide +kernel
theorem dX4_matches_150 : decode cX4_matches 150 = .ok (.iconst 1, 1) := by decide +kernel
theorem dX4_matches_151 : decode cX4_matches 151 = .ok (.goto 4, 3) := by decide +kernel
theorem dX4_matches_154 : decode cX4_matches 154 = .ok (.iconst 0, 1) := by decide +kernel
theorem dX4_matches_155 : decode cX4_matches 155 = .ok (.bastore, 1) := by decide +kernel
theorem dX4_matches_156 : decode cX4_matches 156 = .ok (.iinc 4 1, 3) := by decide +kernel
theorem dX4_matches_159 : decode cX4_matches 159 = .ok (.goto (-126), 3) := by decide +kernel
theorem dX4_matches_162 : decode cX4_matches 162 = .ok (.iinc 2 1, 3) := by decide +kernel
theorem dX4_matches_165 : decode cX4_matches 165 = .ok (.goto (-150), 3) := by decide +kernel
theorem dX4_matches_168 : decode cX4_matches 168 = .ok (.aload_n 1, 1) := by decide +kernel
theorem dX4_matches_169 : decode cX4_matches 169 = .ok (.areturn, 1) := by decide +kernel
theorem dX4_later_0 : decode cX4_later 0 = .ok (.iload_n 1, 1) := by decide +kernel
theorem dX4_later_1 : decode cX4_later 1 = .ok (.aload_n 0, 1) := by decide +kernel
theorem dX4_later_2 : decode cX4_later 2 = .ok (.getfield 40, 3) := by decide +kernel
theorem dX4_later_5 : decode cX4_later 5 = .ok (.iconst 1, 1) := by decide +kernel
theorem dX4_later_6 : decode cX4_later 6 = .ok (.isub, 1) := by decide +kernel
theorem dX4_later_7 : decode cX4_later 7 = .ok (.if_icmp .ne 10, 3) := by decide +kernel
theorem dX4_later_10 : decode cX4_later 10 = .ok (.aload_n 0, 1) := by decide +kernel
theorem dX4_later_11 : decode cX4_later 11 = .ok (.getfield 18, 3) := by decide +kernel
theorem dX4_later_14 : decode cX4_later 14 = .ok (.iload_n 1, 1) := by decide +kernel
theorem dX4_later_15 : decode cX4_later 15 = .ok (.iaload, 1) := by decide +kernel
theorem dX4_later_16 : decode cX4_later 16 = .ok (.ireturn, 1) := by decide +kernel
theorem dX4_later_17 : decode cX4_later 17 = .ok (.iconst 0, 1) := by decide +kernel
theorem dX4_later_18 : decode cX4_later 18 = .ok (.istore_n 3, 1) := by decide +kernel
theorem dX4_later_19 : decode cX4_later 19 = .ok (.iload_n 3, 1) := by decide +kernel
theorem dX4_later_20 : decode cX4_later 20 = .ok (.aload_n 0, 1) := by decide +kernel
theorem dX4_later_21 : decode cX4_later 21 = .ok (.getfield 29, 3) := by decide +kernel
theorem dX4_later_24 : decode cX4_later 24 = .ok (.if_icmp .ge 43, 3) := by decide +kernel
theorem dX4_later_27 : decode cX4_later 27 = .ok (.aload_n 0, 1) := by decide +kernel
theorem dX4_later_28 : decode cX4_later 28 = .ok (.getfield 15, 3) := by decide +kernel
theorem dX4_later_31 : decode cX4_later 31 = .ok (.iload_n 1, 1) := by decide +kernel
theorem dX4_later_32 : decode cX4_later 32 = .ok (.aaload, 1) := by decide +kernel
theorem dX4_later_33 : decode cX4_later 33 = .ok (.iload_n 3, 1) := by decide +kernel
theorem dX4_later_34 : decode cX4_later 34 = .ok (.baload, 1) := by decide +kernel
theorem dX4_later_35 : decode cX4_later 35 = .ok (.ifCond .eq 26, 3) := by decide +kernel
theorem dX4_later_38 : decode cX4_later 38 = .ok (.aload_n 0, 1) := by decide +kernel
theorem dX4_later_39 : decode cX4_later 39 = .ok (.getfield 15, 3) := by decide +kernel
theorem dX4_later_42 : decode cX4_later 42 = .ok (.aload_n 0, 1) := by decide +kernel
theorem dX4_later_43 : decode cX4_later 43 = .ok (.getfield 40, 3) := by decide +kernel
theorem dX4_later_46 : decode cX4_later 46 = .ok (.iconst 1, 1) := by decide +kernel
theorem dX4_later_47 : decode cX4_later 47 = .ok (.isub, 1) := by decide +kernel
theorem dX4_later_48 : decode cX4_later 48 = .ok (.aaload, 1) := by decide +kernel
theorem dX4_later_49 : decode cX4_later 49 = .ok (.iload_n 3, 1) := by decide +kernel
theorem dX4_later_50 : decode cX4_later 50 = .ok (.baload, 1) := by decide +kernel
theorem dX4_later_51 : decode cX4_later 51 = .ok (.ifCond .eq 10, 3) := by decide +kernel
theorem dX4_later_54 : decode cX4_later 54 = .ok (.aload_n 0, 1) := by decide +kernel
theorem dX4_later_55 : decode cX4_later 55 = .ok (.getfield 18, 3) := by decide +kernel
theorem dX4_later_58 : decode cX4_later 58 = .ok (.iload_n 1, 1) := by decide +kernel
theorem dX4_later_59 : decode cX4_later 59 = .ok (.iaload, 1) := by decide +kernel
theorem dX4_later_60 : decode cX4_later 60 = .ok (.ireturn, 1) := by decide +kernel
theorem dX4_later_61 : decode cX4_later 61 = .ok (.iinc 3 1, 3) := by decide +kernel
theorem dX4_later_64 : decode cX4_later 64 = .ok (.goto (-45), 3) := by decide +kernel
theorem dX4_later_67 : decode cX4_later 67 = .ok (.aload_n 0, 1) := by decide +kernel
theorem dX4_later_68 : decode cX4_later 68 = .ok (.getfield 18, 3) := by decide +kernel
theorem dX4_later_71 : decode cX4_later 71 = .ok (.iload_n 1, 1) := by decide +kernel
theorem dX4_later_72 : decode cX4_later 72 = .ok (.iaload, 1) := by decide +kernel
theorem dX4_later_73 : decode cX4_later 73 = .ok (.iload_n 2, 1) := by decide +kernel
theorem dX4_later_74 : decode cX4_later 74 = .ok (.if_icmp .le 14, 3) := by decide +kernel
theorem dX4_later_77 : decode cX4_later 77 = .ok (.aload_n 0, 1) := by decide +kernel
theorem dX4_later_78 : decode cX4_later 78 = .ok (.getfield 18, 3) := by decide +kernel
theorem dX4_later_81 : decode cX4_later 81 = .ok (.iload_n 1, 1) := by decide +kernel
theorem dX4_later_82 : decode cX4_later 82 = .ok (.iaload, 1) := by decide +kernel
theorem dX4_later_83 : decode cX4_later 83 = .ok (.iload_n 2, 1) := by decide +kernel
theorem dX4_later_84 : decode cX4_later 84 = .ok (.isub, 1) := by decide +kernel
theorem dX4_later_85 : decode cX4_later 85 = .ok (.goto 4, 3) := by decide +kernel
theorem dX4_later_88 : decode cX4_later 88 = .ok (.iconst 0, 1) := by decide +kernel
theorem dX4_later_89 : decode cX4_later 89 = .ok (.ireturn, 1) := by decide +kernel
theorem dX4_faded_0 : decode cX4_faded 0 = .ok (.iconst 0, 1) := by decide +kernel
theorem dX4_faded_1 : decode cX4_faded 1 = .ok (.istore_n 2, 1) := by decide +kernel
theorem dX4_faded_2 : decode cX4_faded 2 = .ok (.iconst 0, 1) := by decide +kernel
theorem dX4_faded_3 : decode cX4_faded 3 = .ok (.istore_n 3, 1) := by decide +kernel
theorem dX4_faded_4 : decode cX4_faded 4 = .ok (.iload_n 3, 1) := by decide +kernel
theorem dX4_faded_5 : decode cX4_faded 5 = .ok (.aload_n 0, 1) := by decide +kernel
theorem dX4_faded_6 : decode cX4_faded 6 = .ok (.getfield 40, 3) := by decide +kernel
theorem dX4_faded_9 : decode cX4_faded 9 = .ok (.if_icmp .ge 26, 3) := by decide +kernel
theorem dX4_faded_12 : decode cX4_faded 12 = .ok (.iload_n 2, 1) := by decide +kernel
theorem dX4_faded_13 : decode cX4_faded 13 = .ok (.aload_n 0, 1) := by decide +kernel
theorem dX4_faded_14 : decode cX4_faded 14 = .ok (.iload_n 3, 1) := by decide +kernel
theorem dX4_faded_15 : decode cX4_faded 15 = .ok (.iload_n 1, 1) := by decide +kernel
theorem dX4_faded_16 : decode cX4_faded 16 = .ok (.invokevirtual 46, 3) := by decide +kernel
theorem dX4_faded_19 : decode cX4_faded 19 = .ok (.ifCond .ne 7, 3) := by decide +kernel
theorem dX4_faded_22 : decode cX4_faded 22 = .ok (.iconst 1, 1) := by decide +kernel
theorem dX4_faded_23 : decode cX4_faded 23 = .ok (.goto 4, 3) := by decide +kernel
theorem dX4_faded_26 : decode cX4_faded 26 = .ok (.iconst 0, 1) := by decide +kernel
theorem dX4_faded_27 : decode cX4_faded 27 = .ok (.iadd, 1) := by decide +kernel
theorem dX4_faded_28 : decode cX4_faded 28 = .ok (.istore_n 2, 1) := by decide +kernel
theorem dX4_faded_29 : decode cX4_faded 29 = .ok (.iinc 3 1, 3) := by decide +kernel
theorem dX4_faded_32 : decode cX4_faded 32 = .ok (.goto (-28), 3) := by decide +kernel
theorem dX4_faded_35 : decode cX4_faded 35 = .ok (.iload_n 2, 1) := by decide +kernel
theorem dX4_faded_36 : decode cX4_faded 36 = .ok (.ireturn, 1) := by decide +kernel
theorem dX4_isSame_0 : decode cX4_isSame 0 = .ok (.aload_n 1, 1) := by decide +kernel
theorem dX4_isSame_1 : decode cX4_isSame 1 = .ok (.invokevirtual 50, 3) := by decide +kernel
theorem dX4_isSame_4 : decode cX4_isSame 4 = .ok (.aload_n 0, 1) := by decide +kernel
theorem dX4_isSame_5 : decode cX4_isSame 5 = .ok (.getfield 29, 3) := by decide +kernel
theorem dX4_isSame_8 : decode cX4_isSame 8 = .ok (.if_icmp .ne 48, 3) := by decide +kernel
theorem dX4_isSame_11 : decode cX4_isSame 11 = .ok (.aload_n 1, 1) := by decide +kernel
theorem dX4_isSame_12 : decode cX4_isSame 12 = .ok (.invokevirtual 55, 3) := by decide +kernel
theorem dX4_isSame_15 : decode cX4_isSame 15 = .ok (.aload_n 0, 1) := by decide +kernel
theorem dX4_isSame_16 : decode cX4_isSame 16 = .ok (.getfield 40, 3) := by decide +kernel
theorem dX4_isSame_19 : decode cX4_isSame 19 = .ok (.if_icmp .ne 37, 3) := by decide +kernel
theorem dX4_isSame_22 : decode cX4_isSame 22 = .ok (.aload_n 1, 1) := by decide +kernel
theorem dX4_isSame_23 : decode cX4_isSame 23 = .ok (.invokevirtual 57, 3) := by decide +kernel
theorem dX4_isSame_26 : decode cX4_isSame 26 = .ok (.aload_n 0, 1) := by decide +kernel
theorem dX4_isSame_27 : decode cX4_isSame 27 = .ok (.getfield 37, 3) := by decide +kernel
theorem dX4_isSame_30 : decode cX4_isSame 30 = .ok (.if_icmp .ne 26, 3) := by decide +kernel
theorem dX4_isSame_33 : decode cX4_isSame 33 = .ok (.aload_n 1, 1) := by decide +kernel
theorem dX4_isSame_34 : decode cX4_isSame 34 = .ok (.invokevirtual 59, 3) := by decide +kernel
theorem dX4_isSame_37 : decode cX4_isSame 37 = .ok (.aload_n 0, 1) := by decide +kernel
theorem dX4_isSame_38 : decode cX4_isSame 38 = .ok (.getfield 62, 3) := by decide +kernel
theorem dX4_isSame_41 : decode cX4_isSame 41 = .ok (.if_icmp .ne 15, 3) := by decide +kernel
theorem dX4_isSame_44 : decode cX4_isSame 44 = .ok (.aload_n 1, 1) := by decide +kernel
theorem dX4_isSame_45 : decode cX4_isSame 45 = .ok (.invokevirtual 64, 3) := by decide +kernel
theorem dX4_isSame_48 : decode cX4_isSame 48 = .ok (.aload_n 0, 1) := by decide +kernel
theorem dX4_isSame_49 : decode cX4_isSame 49 = .ok (.iconst 0, 1) := by decide +kernel
theorem dX4_isSame_50 : decode cX4_isSame 50 = .ok (.invokevirtual 67, 3) := by decide +kernel
theorem dX4_isSame_53 : decode cX4_isSame 53 = .ok (.if_icmp .eq 5, 3) := by decide +kernel
theorem dX4_isSame_56 : decode cX4_isSame 56 = .ok (.iconst 0, 1) := by decide +kernel
theorem dX4_isSame_57 : decode cX4_isSame 57 = .ok (.ireturn, 1) := by decide +kernel
theorem dX4_isSame_58 : decode cX4_isSame 58 = .ok (.iconst 0, 1) := by decide +kernel
theorem dX4_isSame_59 : decode cX4_isSame 59 = .ok (.istore_n 2, 1) := by decide +kernel
theorem dX4_isSame_60 : decode cX4_isSame 60 = .ok (.iload_n 2, 1) := by decide +kernel
theorem dX4_isSame_61 : decode cX4_isSame 61 = .ok (.aload_n 0, 1) := by decide +kernel
theorem dX4_isSame_62 : decode cX4_isSame 62 = .ok (.getfield 29, 3) := by decide +kernel
theorem dX4_isSame_65 : decode cX4_isSame 65 = .ok (.if_icmp .ge 206, 3) := by decide +kernel
theorem dX4_isSame_68 : decode cX4_isSame 68 = .ok (.iconst 0, 1) := by decide +kernel
theorem dX4_isSame_69 : decode cX4_isSame 69 = .ok (.istore_n 3, 1) := by decide +kernel
theorem dX4_isSame_70 : decode cX4_isSame 70 = .ok (.iconst 0, 1) := by decide +kernel
theorem dX4_isSame_71 : decode cX4_isSame 71 = .ok (.istore 4, 2) := by decide +kernel
theorem dX4_isSame_73 : decode cX4_isSame 73 = .ok (.iconst 0, 1) := by decide +kernel
theorem dX4_isSame_74 : decode cX4_isSame 74 = .ok (.istore 5, 2) := by decide +kernel
theorem dX4_isSame_76 : decode cX4_isSame 76 = .ok (.iconst 0, 1) := by decide +kernel
theorem dX4_isSame_77 : decode cX4_isSame 77 = .ok (.istore 6, 2) := by decide +kernel
theorem dX4_isSame_79 : decode cX4_isSame 79 = .ok (.iload 6, 2) := by decide +kernel
theorem dX4_isSame_81 : decode cX4_isSame 81 = .ok (.aload_n 0, 1) := by decide +kernel
theorem dX4_isSame_82 : decode cX4_isSame 82 = .ok (.getfield 29, 3) := by decide +kernel
theorem dX4_isSame_85 : decode cX4_isSame 85 = .ok (.if_icmp .ge 66, 3) := by decide +kernel
theorem dX4_isSame_88 : decode cX4_isSame 88 = .ok (.iload_n 3, 1) := by decide +kernel
theorem dX4_isSame_89 : decode cX4_isSame 89 = .ok (.aload_n 0, 1) := by decide +kernel
theorem dX4_isSame_90 : decode cX4_isSame 90 = .ok (.iload_n 2, 1) := by decide +kernel
theorem dX4_isSame_91 : decode cX4_isSame 91 = .ok (.iload 6, 2) := by decide +kernel
theorem dX4_isSame_93 : decode cX4_isSame 93 = .ok (.invokevirtual 33, 3) := by decide +kernel
theorem dX4_isSame_96 : decode cX4_isSame 96 = .ok (.ifCond .eq 7, 3) := by decide +kernel
theorem dX4_isSame_99 : decode cX4_isSame 99 = .ok (.iconst 1, 1) := by decide +kernel
theorem dX4_isSame_100 : decode cX4_isSame 100 = .ok (.goto 4, 3) := by decide +kernel
theorem dX4_isSame_103 : decode cX4_isSame 103 = .ok (.iconst 0, 1) := by decide +kernel
theorem dX4_isSame_104 : decode cX4_isSame 104 = .ok (.iadd, 1) := by decide +kernel
theorem dX4_isSame_105 : decode cX4_isSame 105 = .ok (.istore_n 3, 1) := by decide +kernel
theorem dX4_isSame_106 : decode cX4_isSame 106 = .ok (.iload 4, 2) := by decide +kernel
theorem dX4_isSame_108 : decode cX4_isSame 108 = .ok (.aload_n 0, 1) := by decide +kernel
theorem dX4_isSame_109 : decode cX4_isSame 109 = .ok (.iload 6, 2) := by decide +kernel
theorem dX4_isSame_111 : decode cX4_isSame 111 = .ok (.iload_n 2, 1) := by decide +kernel
theorem dX4_isSame_112 : decode cX4_isSame 112 = .ok (.invokevirtual 33, 3) := by decide +kernel
theorem dX4_isSame_115 : decode cX4_isSame 115 = .ok (.ifCond .eq 7, 3) := by decide +kernel
theorem dX4_isSame_118 : decode cX4_isSame 118 = .ok (.iconst 1, 1) := by decide +kernel
theorem dX4_isSame_119 : decode cX4_isSame 119 = .ok (.goto 4, 3) := by decide +kernel
theorem dX4_isSame_122 : decode cX4_isSame 122 = .ok (.iconst 0, 1) := by decide +kernel
theorem dX4_isSame_123 : decode cX4_isSame 123 = .ok (.iadd, 1) := by decide +kernel
theorem dX4_isSame_124 : decode cX4_isSame 124 = .ok (.istore 4, 2) := by decide +kernel
theorem dX4_isSame_126 : decode cX4_isSame 126 = .ok (.aload_n 1, 1) := by decide +kernel
theorem dX4_isSame_127 : decode cX4_isSame 127 = .ok (.iload_n 2, 1) := by decide +kernel
theorem dX4_isSame_128 : decode cX4_isSame 128 = .ok (.iload 6, 2) := by decide +kernel
theorem dX4_isSame_130 : decode cX4_isSame 130 = .ok (.invokevirtual 71, 3) := by decide +kernel
theorem dX4_isSame_133 : decode cX4_isSame 133 = .ok (.aload_n 0, 1) := by decide +kernel
theorem dX4_isSame_134 : decode cX4_isSame 134 = .ok (.iload_n 2, 1) := by decide +kernel
theorem dX4_isSame_135 : decode cX4_isSame 135 = .ok (.iload 6, 2) := by decide +kernel
theorem dX4_isSame_137 : decode cX4_isSame 137 = .ok (.invokevirtual 33, 3) := by decide +kernel
theorem dX4_isSame_140 : decode cX4_isSame 140 = .ok (.if_icmp .eq 5, 3) := by decide +kernel
theorem dX4_isSame_143 : decode cX4_isSame 143 = .ok (.iconst 0, 1) := by decide +kernel
theorem dX4_isSame_144 : decode cX4_isSame 144 = .ok (.ireturn, 1) := by decide +kernel
theorem dX4_isSame_145 : decode cX4_isSame 145 = .ok (.iinc 6 1, 3) := by decide +kernel
theorem dX4_isSame_148 : decode cX4_isSame 148 = .ok (.goto (-69), 3) := by decide +kernel
theorem dX4_isSame_151 : decode cX4_isSame 151 = .ok (.iconst 0, 1) := by decide +kernel
theorem dX4_isSame_152 : decode cX4_isSame 152 = .ok (.istore 6, 2) := by decide +kernel
theorem dX4_isSame_154 : decode cX4_isSame 154 = .ok (.iload 6, 2) := by decide +kernel
theorem dX4_isSame_156 : decode cX4_isSame 156 = .ok (.aload_n 0, 1) := by decide +kernel
theorem dX4_isSame_157 : decode cX4_isSame 157 = .ok (.getfield 40, 3) := by decide +kernel
theorem dX4_isSame_160 : decode cX4_isSame 160 = .ok (.if_icmp .ge 29, 3) := by decide +kernel
theorem dX4_isSame_163 : decode cX4_isSame 163 = .ok (.iload 5, 2) := by decide +kernel
theorem dX4_isSame_165 : decode cX4_isSame 165 = .ok (.aload_n 0, 1) := by decide +kernel
theorem dX4_isSame_166 : decode cX4_isSame 166 = .ok (.iload 6, 2) := by decide +kernel
theorem dX4_isSame_168 : decode cX4_isSame 168 = .ok (.iload_n 2, 1) := by decide +kernel
theorem dX4_isSame_169 : decode cX4_isSame 169 = .ok (.invokevirtual 43, 3) := by decide +kernel
theorem dX4_isSame_172 : decode cX4_isSame 172 = .ok (.ifCond .eq 7, 3) := by decide +kernel
theorem dX4_isSame_175 : decode cX4_isSame 175 = .ok (.iconst 1, 1) := by decide +kernel
theorem dX4_isSame_176 : decode cX4_isSame 176 = .ok (.goto 4, 3) := by decide +kernel
theorem dX4_isSame_179 : decode cX4_isSame 179 = .ok (.iconst 0, 1) := by decide +kernel
theorem dX4_isSame_180 : decode cX4_isSame 180 = .ok (.iadd, 1) := by decide +kernel
theorem dX4_isSame_181 : decode cX4_isSame 181 = .ok (.istore 5, 2) := by decide +kernel
theorem dX4_isSame_183 : decode cX4_isSame 183 = .ok (.iinc 6 1, 3) := by decide +kernel
theorem dX4_isSame_186 : decode cX4_isSame 186 = .ok (.goto (-32), 3) := by decide +kernel
theorem dX4_isSame_189 : decode cX4_isSame 189 = .ok (.aload_n 1, 1) := by decide +kernel
theorem dX4_isSame_190 : decode cX4_isSame 190 = .ok (.iload_n 2, 1) := by decide +kernel
theorem dX4_isSame_191 : decode cX4_isSame 191 = .ok (.invokevirtual 72, 3) := by decide +kernel
theorem dX4_isSame_194 : decode cX4_isSame 194 = .ok (.aload_n 0, 1) := by decide +kernel
theorem dX4_isSame_195 : decode cX4_isSame 195 = .ok (.getfield 7, 3) := by decide +kernel
theorem dX4_isSame_198 : decode cX4_isSame 198 = .ok (.iload_n 2, 1) := by decide +kernel
theorem dX4_isSame_199 : decode cX4_isSame 199 = .ok (.iaload, 1) := by decide +kernel
theorem dX4_isSame_200 : decode cX4_isSame 200 = .ok (.ifCond .lt 7, 3) := by decide +kernel
theorem dX4_isSame_203 : decode cX4_isSame 203 = .ok (.iconst 1, 1) := by decide +kernel
theorem dX4_isSame_204 : decode cX4_isSame 204 = .ok (.goto 4, 3) := by decide +kernel
theorem dX4_isSame_207 : decode cX4_isSame 207 = .ok (.iconst 0, 1) := by decide +kernel
theorem dX4_isSame_208 : decode cX4_isSame 208 = .ok (.if_icmp .ne 55, 3) := by decide +kernel
theorem dX4_isSame_211 : decode cX4_isSame 211 = .ok (.aload_n 0, 1) := by decide +kernel
theorem dX4_isSame_212 : decode cX4_isSame 212 = .ok (.getfield 7, 3) := by decide +kernel
theorem dX4_isSame_215 : decode cX4_isSame 215 = .ok (.iload_n 2, 1) := by decide +kernel
theorem dX4_isSame_216 : decode cX4_isSame 216 = .ok (.iaload, 1) := by decide +kernel
theorem dX4_isSame_217 : decode cX4_isSame 217 = .ok (.ifCond .lt 17, 3) := by decide +kernel
theorem dX4_isSame_220 : decode cX4_isSame 220 = .ok (.aload_n 1, 1) := by decide +kernel
theorem dX4_isSame_221 : decode cX4_isSame 221 = .ok (.iload_n 2, 1) := by decide +kernel
theorem dX4_isSame_222 : decode cX4_isSame 222 = .ok (.invokevirtual 76, 3) := by decide +kernel
theorem dX4_isSame_225 : decode cX4_isSame 225 = .ok (.aload_n 0, 1) := by decide +kernel
theorem dX4_isSame_226 : decode cX4_isSame 226 = .ok (.getfield 7, 3) := by decide +kernel
theorem dX4_isSame_229 : decode cX4_isSame 229 = .ok (.iload_n 2, 1) := by decide +kernel
theorem dX4_isSame_230 : decode cX4_isSame 230 = .ok (.iaload, 1) := by decide +kernel
theorem dX4_isSame_231 : decode cX4_isSame 231 = .ok (.if_icmp .ne 32, 3) := by decide +kernel
theorem dX4_isSame_234 : decode cX4_isSame 234 = .ok (.aload_n 1, 1) := by decide +kernel
theorem dX4_isSame_235 : decode cX4_isSame 235 = .ok (.iload_n 2, 1) := by decide +kernel
theorem dX4_isSame_236 : decode cX4_isSame 236 = .ok (.invokevirtual 79, 3) := by decide +kernel
theorem dX4_isSame_239 : decode cX4_isSame 239 = .ok (.iload_n 3, 1) := by decide +kernel
theorem dX4_isSame_240 : decode cX4_isSame 240 = .ok (.if_icmp .ne 23, 3) := by decide +kernel
theorem dX4_isSame_243 : decode cX4_isSame 243 = .ok (.aload_n 1, 1) := by decide +kernel
theorem dX4_isSame_244 : decode cX4_isSame 244 = .ok (.iload_n 2, 1) := by decide +kernel
theorem dX4_isSame_245 : decode cX4_isSame 245 = .ok (.invokevirtual 82, 3) := by decide +kernel
theorem dX4_isSame_248 : decode cX4_isSame 248 = .ok (.iload 4, 2) := by decide +kernel
theorem dX4_isSame_250 : decode cX4_isSame 250 = .ok (.if_icmp .ne 13, 3) := by decide +kernel
theorem dX4_isSame_253 : decode cX4_isSame 253 = .ok (.aload_n 1, 1) := by decide +kernel
theorem dX4_isSame_254 : decode cX4_isSame 254 = .ok (.iload_n 2, 1) := by decide +kernel
theorem dX4_isSame_255 : decode cX4_isSame 255 = .ok (.invokevirtual 85, 3) := by decide +kernel
theorem dX4_isSame_258 : decode cX4_isSame 258 = .ok (.iload 5, 2) := by decide +kernel
theorem dX4_isSame_260 : decode cX4_isSame 260 = .ok (.if_icmp .eq 5, 3) := by decide +kernel
theorem dX4_isSame_263 : decode cX4_isSame 263 = .ok (.iconst 0, 1) := by decide +kernel
theorem dX4_isSame_264 : decode cX4_isSame 264 = .ok (.ireturn, 1) := by decide +kernel
theorem dX4_isSame_265 : decode cX4_isSame 265 = .ok (.iinc 2 1, 3) := by decide +kernel
theorem dX4_isSame_268 : decode cX4_isSame 268 = .ok (.goto (-208), 3) := by decide +kernel
theorem dX4_isSame_271 : decode cX4_isSame 271 = .ok (.iconst 0, 1) := by decide +kernel
theorem dX4_isSame_272 : decode cX4_isSame 272 = .ok (.istore_n 2, 1) := by decide +kernel
theorem dX4_isSame_273 : decode cX4_isSame 273 = .ok (.iconst 0, 1) := by decide +kernel
theorem dX4_isSame_274 : decode cX4_isSame 274 = .ok (.istore_n 3, 1) := by decide +kernel
theorem dX4_isSame_275 : decode cX4_isSame 275 = .ok (.iload_n 3, 1) := by decide +kernel
theorem dX4_isSame_276 : decode cX4_isSame 276 = .ok (.aload_n 0, 1) := by decide +kernel
theorem dX4_isSame_277 : decode cX4_isSame 277 = .ok (.getfield 40, 3) := by decide +kernel
theorem dX4_isSame_280 : decode cX4_isSame 280 = .ok (.if_icmp .ge 137, 3) := by decide +kernel
theorem dX4_isSame_283 : decode cX4_isSame 283 = .ok (.iconst 0, 1) := by decide +kernel
theorem dX4_isSame_284 : decode cX4_isSame 284 = .ok (.istore 4, 2) := by decide +kernel
theorem dX4_isSame_286 : decode cX4_isSame 286 = .ok (.iconst 0, 1) := by decide +kernel
theorem dX4_isSame_287 : decode cX4_isSame 287 = .ok (.istore 5, 2) := by decide +kernel
theorem dX4_isSame_289 : decode cX4_isSame 289 = .ok (.iload 5, 2) := by decide +kernel
theorem dX4_isSame_291 : decode cX4_isSame 291 = .ok (.aload_n 0, 1) := by decide +kernel
theorem dX4_isSame_292 : decode cX4_isSame 292 = .ok (.getfield 29, 3) := by decide +kernel
theorem dX4_isSame_295 : decode cX4_isSame 295 = .ok (.if_icmp .ge 67, 3) := by decide +kernel
theorem dX4_isSame_298 : decode cX4_isSame 298 = .ok (.iload 4, 2) := by decide +kernel
theorem dX4_isSame_300 : decode cX4_isSame 300 = .ok (.aload_n 0, 1) := by decide +kernel
theorem dX4_isSame_301 : decode cX4_isSame 301 = .ok (.iload_n 3, 1) := by decide +kernel
theorem dX4_isSame_302 : decode cX4_isSame 302 = .ok (.iload 5, 2) := by decide +kernel
theorem dX4_isSame_304 : decode cX4_isSame 304 = .ok (.invokevirtual 43, 3) := by decide +kernel
theorem dX4_isSame_307 : decode cX4_isSame 307 = .ok (.ifCond .eq 7, 3) := by decide +kernel
theorem dX4_isSame_310 : decode cX4_isSame 310 = .ok (.iconst 1, 1) := by decide +kernel
theorem dX4_isSame_311 : decode cX4_isSame 311 = .ok (.goto 4, 3) := by decide +kernel
theorem dX4_isSame_314 : decode cX4_isSame 314 = .ok (.iconst 0, 1) := by decide +kernel
theorem dX4_isSame_315 : decode cX4_isSame 315 = .ok (.iadd, 1) := by decide +kernel
theorem dX4_isSame_316 : decode cX4_isSame 316 = .ok (.istore 4, 2) := by decide +kernel
theorem dX4_isSame_318 : decode cX4_isSame 318 = .ok (.aload_n 1, 1) := by decide +kernel
theorem dX4_isSame_319 : decode cX4_isSame 319 = .ok (.iload_n 3, 1) := by decide +kernel
theorem dX4_isSame_320 : decode cX4_isSame 320 = .ok (.iload 5, 2) := by decide +kernel
theorem dX4_isSame_322 : decode cX4_isSame 322 = .ok (.invokevirtual 88, 3) := by decide +kernel
theorem dX4_isSame_325 : decode cX4_isSame 325 = .ok (.aload_n 0, 1) := by decide +kernel
theorem dX4_isSame_326 : decode cX4_isSame 326 = .ok (.getfield 15, 3) := by decide +kernel
theorem dX4_isSame_329 : decode cX4_isSame 329 = .ok (.iload_n 3, 1) := by decide +kernel
theorem dX4_isSame_330 : decode cX4_isSame 330 = .ok (.aaload, 1) := by decide +kernel
theorem dX4_isSame_331 : decode cX4_isSame 331 = .ok (.iload 5, 2) := by decide +kernel
theorem dX4_isSame_333 : decode cX4_isSame 333 = .ok (.baload, 1) := by decide +kernel
theorem dX4_isSame_334 : decode cX4_isSame 334 = .ok (.if_icmp .ne 20, 3) := by decide +kernel
theorem dX4_isSame_337 : decode cX4_isSame 337 = .ok (.aload_n 1, 1) := by decide +kernel
theorem dX4_isSame_338 : decode cX4_isSame 338 = .ok (.iload_n 3, 1) := by decide +kernel
theorem dX4_isSame_339 : decode cX4_isSame 339 = .ok (.iload 5, 2) := by decide +kernel
theorem dX4_isSame_341 : decode cX4_isSame 341 = .ok (.invokevirtual 91, 3) := by decide +kernel
theorem dX4_isSame_344 : decode cX4_isSame 344 = .ok (.aload_n 0, 1) := by decide +kernel
theorem dX4_isSame_345 : decode cX4_isSame 345 = .ok (.iload_n 3, 1) := by decide +kernel
theorem dX4_isSame_346 : decode cX4_isSame 346 = .ok (.iload 5, 2) := by decide +kernel
theorem dX4_isSame_348 : decode cX4_isSame 348 = .ok (.invokevirtual 43, 3) := by decide +kernel
theorem dX4_isSame_351 : decode cX4_isSame 351 = .ok (.if_icmp .eq 5, 3) := by decide +kernel
theorem dX4_isSame_354 : decode cX4_isSame 354 = .ok (.iconst 0, 1) := by decide +kernel
theorem dX4_isSame_355 : decode cX4_isSame 355 = .ok (.ireturn, 1) := by decide +kernel
theorem dX4_isSame_356 : decode cX4_isSame 356 = .ok (.iinc 5 1, 3) := by decide +kernel
theorem dX4_isSame_359 : decode cX4_isSame 359 = .ok (.goto (-70), 3) := by decide +kernel
theorem dX4_isSame_362 : decode cX4_isSame 362 = .ok (.aload_n 1, 1) := by decide +kernel
theorem dX4_isSame_363 : decode cX4_isSame 363 = .ok (.iload_n 3, 1) := by decide +kernel
theorem dX4_isSame_364 : decode cX4_isSame 364 = .ok (.invokevirtual 92, 3) := by decide +kernel
theorem dX4_isSame_367 : decode cX4_isSame 367 = .ok (.iload 4, 2) := by decide +kernel
theorem dX4_isSame_369 : decode cX4_isSame 369 = .ok (.if_icmp .ne 31, 3) := by decide +kernel
theorem dX4_isSame_372 : decode cX4_isSame 372 = .ok (.aload_n 1, 1) := by decide +kernel
theorem dX4_isSame_373 : decode cX4_isSame 373 = .ok (.iload_n 3, 1) := by decide +kernel
theorem dX4_isSame_374 : decode cX4_isSame 374 = .ok (.invokevirtual 95, 3) := by decide +kernel
theorem dX4_isSame_377 : decode cX4_isSame 377 = .ok (.aload_n 0, 1) := by decide +kernel
theorem dX4_isSame_378 : decode cX4_isSame 378 = .ok (.getfield 18, 3) := by decide +kernel
theorem dX4_isSame_381 : decode cX4_isSame 381 = .ok (.iload_n 3, 1) := by decide +kernel
theorem dX4_isSame_382 : decode cX4_isSame 382 = .ok (.iaload, 1) := by decide +kernel
theorem dX4_isSame_383 : decode cX4_isSame 383 = .ok (.if_icmp .ne 17, 3) := by decide +kernel
theorem dX4_isSame_386 : decode cX4_isSame 386 = .ok (.aload_n 1, 1) := by decide +kernel
theorem dX4_isSame_387 : decode cX4_isSame 387 = .ok (.iload_n 3, 1) := by decide +kernel
theorem dX4_isSame_388 : decode cX4_isSame 388 = .ok (.invokevirtual 98, 3) := by decide +kernel
theorem dX4_isSame_391 : decode cX4_isSame 391 = .ok (.aload_n 0, 1) := by decide +kernel
theorem dX4_isSame_392 : decode cX4_isSame 392 = .ok (.getfield 21, 3) := by decide +kernel
theorem dX4_isSame_395 : decode cX4_isSame 395 = .ok (.iload_n 3, 1) := by decide +kernel
theorem dX4_isSame_396 : decode cX4_isSame 396 = .ok (.iaload, 1) := by decide +kernel
theorem dX4_isSame_397 : decode cX4_isSame 397 = .ok (.if_icmp .eq 5, 3) := by decide +kernel
theorem dX4_isSame_400 : decode cX4_isSame 400 = .ok (.iconst 0, 1) := by decide +kernel
theorem dX4_isSame_401 : decode cX4_isSame 401 = .ok (.ireturn, 1) := by decide +kernel
theorem dX4_isSame_402 : decode cX4_isSame 402 = .ok (.iload_n 2, 1) := by decide +kernel
theorem dX4_isSame_403 : decode cX4_isSame 403 = .ok (.aload_n 0, 1) := by decide +kernel
theorem dX4_isSame_404 : decode cX4_isSame 404 = .ok (.getfield 18, 3) := by decide +kernel
theorem dX4_isSame_407 : decode cX4_isSame 407 = .ok (.iload_n 3, 1) := by decide +kernel
theorem dX4_isSame_408 : decode cX4_isSame 408 = .ok (.iaload, 1) := by decide +kernel
theorem dX4_isSame_409 : decode cX4_isSame 409 = .ok (.iadd, 1) := by decide +kernel
theorem dX4_isSame_410 : decode cX4_isSame 410 = .ok (.istore_n 2, 1) := by decide +kernel
theorem dX4_isSame_411 : decode cX4_isSame 411 = .ok (.iinc 3 1, 3) := by decide +kernel
theorem dX4_isSame_414 : decode cX4_isSame 414 = .ok (.goto (-139), 3) := by decide +kernel
theorem dX4_isSame_417 : decode cX4_isSame 417 = .ok (.aload_n 0, 1) := by decide +kernel
theorem dX4_isSame_418 : decode cX4_isSame 418 = .ok (.invokevirtual 101, 3) := by decide +kernel
theorem dX4_isSame_421 : decode cX4_isSame 421 = .ok (.astore_n 3, 1) := by decide +kernel
theorem dX4_isSame_422 : decode cX4_isSame 422 = .ok (.iconst 0, 1) := by decide +kernel
theorem dX4_isSame_423 : decode cX4_isSame 423 = .ok (.istore 4, 2) := by decide +kernel
theorem dX4_isSame_425 : decode cX4_isSame 425 = .ok (.iload 4, 2) := by decide +kernel
theorem dX4_isSame_427 : decode cX4_isSame 427 = .ok (.aload_n 0, 1) := by decide +kernel
theorem dX4_isSame_428 : decode cX4_isSame 428 = .ok (.getfield 37, 3) := by decide +kernel
theorem dX4_isSame_431 : decode cX4_isSame 431 = .ok (.if_icmp .ge 83, 3) := by decide +kernel
theorem dX4_isSame_434 : decode cX4_isSame 434 = .ok (.iconst 0, 1) := by decide +kernel
theorem dX4_isSame_435 : decode cX4_isSame 435 = .ok (.istore 5, 2) := by decide +kernel
theorem dX4_isSame_437 : decode cX4_isSame 437 = .ok (.iconst 0, 1) := by decide +kernel
theorem dX4_isSame_438 : decode cX4_isSame 438 = .ok (.istore 6, 2) := by decide +kernel
theorem dX4_isSame_440 : decode cX4_isSame 440 = .ok (.iload 6, 2) := by decide +kernel
theorem dX4_isSame_442 : decode cX4_isSame 442 = .ok (.aload_n 0, 1) := by decide +kernel
theorem dX4_isSame_443 : decode cX4_isSame 443 = .ok (.getfield 40, 3) := by decide +kernel
theorem dX4_isSame_446 : decode cX4_isSame 446 = .ok (.if_icmp .ge 49, 3) := by decide +kernel
theorem dX4_isSame_449 : decode cX4_isSame 449 = .ok (.iload 5, 2) := by decide +kernel
theorem dX4_isSame_451 : decode cX4_isSame 451 = .ok (.aload_n 3, 1) := by decide +kernel
theorem dX4_isSame_452 : decode cX4_isSame 452 = .ok (.iload 4, 2) := by decide +kernel
theorem dX4_isSame_454 : decode cX4_isSame 454 = .ok (.aaload, 1) := by decide +kernel
theorem dX4_isSame_455 : decode cX4_isSame 455 = .ok (.iload 6, 2) := by decide +kernel
theorem dX4_isSame_457 : decode cX4_isSame 457 = .ok (.baload, 1) := by decide +kernel
theorem dX4_isSame_458 : decode cX4_isSame 458 = .ok (.ifCond .eq 7, 3) := by decide +kernel
theorem dX4_isSame_461 : decode cX4_isSame 461 = .ok (.iconst 1, 1) := by decide +kernel
theorem dX4_isSame_462 : decode cX4_isSame 462 = .ok (.goto 4, 3) := by decide +kernel
theorem dX4_isSame_465 : decode cX4_isSame 465 = .ok (.iconst 0, 1) := by decide +kernel
theorem dX4_isSame_466 : decode cX4_isSame 466 = .ok (.iadd, 1) := by decide +kernel
theorem dX4_isSame_467 : decode cX4_isSame 467 = .ok (.istore 5, 2) := by decide +kernel
theorem dX4_isSame_469 : decode cX4_isSame 469 = .ok (.aload_n 1, 1) := by decide +kernel
theorem dX4_isSame_470 : decode cX4_isSame 470 = .ok (.iload 4, 2) := by decide +kernel
theorem dX4_isSame_472 : decode cX4_isSame 472 = .ok (.iload 6, 2) := by decide +kernel
theorem dX4_isSame_474 : decode cX4_isSame 474 = .ok (.invokevirtual 105, 3) := by decide +kernel
theorem dX4_isSame_477 : decode cX4_isSame 477 = .ok (.aload_n 3, 1) := by decide +kernel
theorem dX4_isSame_478 : decode cX4_isSame 478 = .ok (.iload 4, 2) := by decide +kernel
theorem dX4_isSame_480 : decode cX4_isSame 480 = .ok (.aaload, 1) := by decide +kernel
theorem dX4_isSame_481 : decode cX4_isSame 481 = .ok (.iload 6, 2) := by decide +kernel
theorem dX4_isSame_483 : decode cX4_isSame 483 = .ok (.baload, 1) := by decide +kernel
theorem dX4_isSame_484 : decode cX4_isSame 484 = .ok (.if_icmp .eq 5, 3) := by decide +kernel
theorem dX4_isSame_487 : decode cX4_isSame 487 = .ok (.iconst 0, 1) := by decide +kernel
theorem dX4_isSame_488 : decode cX4_isSame 488 = .ok (.ireturn, 1) := by decide +kernel
theorem dX4_isSame_489 : decode cX4_isSame 489 = .ok (.iinc 6 1, 3) := by decide +kernel
theorem dX4_isSame_492 : decode cX4_isSame 492 = .ok (.goto (-52), 3) := by decide +kernel
theorem dX4_isSame_495 : decode cX4_isSame 495 = .ok (.aload_n 1, 1) := by decide +kernel
theorem dX4_isSame_496 : decode cX4_isSame 496 = .ok (.iload 4, 2) := by decide +kernel
theorem dX4_isSame_498 : decode cX4_isSame 498 = .ok (.invokevirtual 107, 3) := by decide +kernel
theorem dX4_isSame_501 : decode cX4_isSame 501 = .ok (.iload 5, 2) := by decide +kernel
theorem dX4_isSame_503 : decode cX4_isSame 503 = .ok (.if_icmp .eq 5, 3) := by decide +kernel
theorem dX4_isSame_506 : decode cX4_isSame 506 = .ok (.iconst 0, 1) := by decide +kernel
theorem dX4_isSame_507 : decode cX4_isSame 507 = .ok (.ireturn, 1) := by decide +kernel
theorem dX4_isSame_508 : decode cX4_isSame 508 = .ok (.iinc 4 1, 3) := by decide +kernel
theorem dX4_isSame_511 : decode cX4_isSame 511 = .ok (.goto (-86), 3) := by decide +kernel
theorem dX4_isSame_514 : decode cX4_isSame 514 = .ok (.aload_n 1, 1) := by decide +kernel
theorem dX4_isSame_515 : decode cX4_isSame 515 = .ok (.invokevirtual 110, 3) := by decide +kernel
theorem dX4_isSame_518 : decode cX4_isSame 518 = .ok (.aload_n 0, 1) := by decide +kernel
theorem dX4_isSame_519 : decode cX4_isSame 519 = .ok (.getfield 40, 3) := by decide +kernel
theorem dX4_isSame_522 : decode cX4_isSame 522 = .ok (.ifCond .ne 7, 3) := by decide +kernel
theorem dX4_isSame_525 : decode cX4_isSame 525 = .ok (.dconst 0, 1) := by decide +kernel
theorem dX4_isSame_526 : decode cX4_isSame 526 = .ok (.goto 11, 3) := by decide +kernel
theorem dX4_isSame_529 : decode cX4_isSame 529 = .ok (.iload_n 2, 1) := by decide +kernel
theorem dX4_isSame_530 : decode cX4_isSame 530 = .ok (.i2d, 1) := by decide +kernel
theorem dX4_isSame_531 : decode cX4_isSame 531 = .ok (.aload_n 0, 1) := by decide +kernel
theorem dX4_isSame_532 : decode cX4_isSame 532 = .ok (.getfield 40, 3) := by decide +kernel
theorem dX4_isSame_535 : decode cX4_isSame 535 = .ok (.i2d, 1) := by decide +kernel
theorem dX4_isSame_536 : decode cX4_isSame 536 = .ok (.ddiv, 1) := by decide +kernel
theorem dX4_isSame_537 : decode cX4_isSame 537 = .ok (.dcmp .l, 1) := by decide +kernel
theorem dX4_isSame_538 : decode cX4_isSame 538 = .ok (.ifCond .ne 7, 3) := by decide +kernel
theorem dX4_isSame_541 : decode cX4_isSame 541 = .ok (.iconst 1, 1) := by decide +kernel
theorem dX4_isSame_542 : decode cX4_isSame 542 = .ok (.goto 4, 3) := by decide +kernel
theorem dX4_isSame_545 : decode cX4_isSame 545 = .ok (.iconst 0, 1) := by decide +kernel
theorem dX4_isSame_546 : decode cX4_isSame 546 = .ok (.ireturn, 1) := by decide +kernel
theorem dJ6_bitCount_0f7a4_0 : decode cJ6_bitCount_0f7a4 0 = .ok (.iload_n 0, 1) := by decide +kernel
theorem dJ6_bitCount_0f7a4_1 : decode cJ6_bitCount_0f7a4 1 = .ok (.iload_n 0, 1) := by decide +kernel
theorem dJ6_bitCount_0f7a4_2 : decode cJ6_bitCount_0f7a4 2 = .ok (.iconst 1, 1) := by decide +kernel
theorem dJ6_bitCount_0f7a4_3 : decode cJ6_bitCount_0f7a4 3 = .ok (.iushr, 1) := by decide +kernel
theorem dJ6_bitCount_0f7a4_4 : decode cJ6_bitCount_0f7a4 4 = .ok (.ldc_w 265, 3) := by decide +kernel
theorem dJ6_bitCount_0f7a4_7 : decode cJ6_bitCount_0f7a4 7 = .ok (.iand, 1) := by decide +kernel
theorem dJ6_bitCount_0f7a4_8 : decode cJ6_bitCount_0f7a4 8 = .ok (.isub, 1) := by decide +kernel
theorem dJ6_bitCount_0f7a4_9 : decode cJ6_bitCount_0f7a4 9 = .ok (.istore_n 0, 1) := by decide +kernel
theorem dJ6_bitCount_0f7a4_10 : decode cJ6_bitCount_0f7a4 10 = .ok (.iload_n 0, 1) := by decide +kernel
theorem dJ6_bitCount_0f7a4_11 : decode cJ6_bitCount_0f7a4 11 = .ok (.ldc_w 266, 3) := by decide +kernel
theorem dJ6_bitCount_0f7a4_14 : decode cJ6_bitCount_0f7a4 14 = .ok (.iand, 1) := by decide +kernel
theorem dJ6_bitCount_0f7a4_15 : decode cJ6_bitCount_0f7a4 15 = .ok (.iload_n 0, 1) := by decide +kernel
theorem dJ6_bitCount_0f7a4_16 : decode cJ6_bitCount_0f7a4 16 = .ok (.iconst 2, 1) := by decide +kernel
theorem dJ6_bitCount_0f7a4_17 : decode cJ6_bitCount_0f7a4 17 = .ok (.iushr, 1) := by decide +kernel
theorem dJ6_bitCount_0f7a4_18 : decode cJ6_bitCount_0f7a4 18 = .ok (.ldc_w 266, 3) := by decide +kernel
theorem dJ6_bitCount_0f7a4_21 : decode cJ6_bitCount_0f7a4 21 = .ok (.iand, 1) := by decide +kernel
theorem dJ6_bitCount_0f7a4_22 : decode cJ6_bitCount_0f7a4 22 = .ok (.iadd, 1) := by decide +kernel
theorem dJ6_bitCount_0f7a4_23 : decode cJ6_bitCount_0f7a4 23 = .ok (.istore_n 0, 1) := by decide +kernel
theorem dJ6_bitCount_0f7a4_24 : decode cJ6_bitCount_0f7a4 24 = .ok (.iload_n 0, 1) := by decide +kernel
theorem dJ6_bitCount_0f7a4_25 : decode cJ6_bitCount_0f7a4 25 = .ok (.iload_n 0, 1) := by decide +kernel
theorem dJ6_bitCount_0f7a4_26 : decode cJ6_bitCount_0f7a4 26 = .ok (.iconst 4, 1) := by decide +kernel
theorem dJ6_bitCount_0f7a4_27 : decode cJ6_bitCount_0f7a4 27 = .ok (.iushr, 1) := by decide +kernel
theorem dJ6_bitCount_0f7a4_28 : decode cJ6_bitCount_0f7a4 28 = .ok (.iadd, 1) := by decide +kernel
theorem dJ6_bitCount_0f7a4_29 : decode cJ6_bitCount_0f7a4 29 = .ok (.ldc_w 267, 3) := by decide +kernel
theorem dJ6_bitCount_0f7a4_32 : decode cJ6_bitCount_0f7a4 32 = .ok (.iand, 1) := by decide +kernel
theorem dJ6_bitCount_0f7a4_33 : decode cJ6_bitCount_0f7a4 33 = .ok (.istore_n 0, 1) := by decide +kernel
theorem dJ6_bitCount_0f7a4_34 : decode cJ6_bitCount_0f7a4 34 = .ok (.iload_n 0, 1) := by decide +kernel
theorem dJ6_bitCount_0f7a4_35 : decode cJ6_bitCount_0f7a4 35 = .ok (.iload_n 0, 1) := by decide +kernel
theorem dJ6_bitCount_0f7a4_36 : decode cJ6_bitCount_0f7a4 36 = .ok (.bipush 8, 2) := by decide +kernel
theorem dJ6_bitCount_0f7a4_38 : decode cJ6_bitCount_0f7a4 38 = .ok (.iushr, 1) := by decide +kernel
theorem dJ6_bitCount_0f7a4_39 : decode cJ6_bitCount_0f7a4 39 = .ok (.iadd, 1) := by decide +kernel
theorem dJ6_bitCount_0f7a4_40 : decode cJ6_bitCount_0f7a4 40 = .ok (.istore_n 0, 1) := by decide +kernel
theorem dJ6_bitCount_0f7a4_41 : decode cJ6_bitCount_0f7a4 41 = .ok (.iload_n 0, 1) := by decide +kernel
theorem dJ6_bitCount_0f7a4_42 : decode cJ6_bitCount_0f7a4 42 = .ok (.iload_n 0, 1) := by decide +kernel
theorem dJ6_bitCount_0f7a4_43 : decode cJ6_bitCount_0f7a4 43 = .ok (.bipush 16, 2) := by decide +kernel
theorem dJ6_bitCount_0f7a4_45 : decode cJ6_bitCount_0f7a4 45 = .ok (.iushr, 1) := by decide +kernel
theorem dJ6_bitCount_0f7a4_46 : decode cJ6_bitCount_0f7a4 46 = .ok (.iadd, 1) := by decide +kernel
theorem dJ6_bitCount_0f7a4_47 : decode cJ6_bitCount_0f7a4 47 = .ok (.istore_n 0, 1) := by decide +kernel
theorem dJ6_bitCount_0f7a4_48 : decode cJ6_bitCount_0f7a4 48 = .ok (.iload_n 0, 1) := by decide +kernel
theorem dJ6_bitCount_0f7a4_49 : decode cJ6_bitCount_0f7a4 49 = .ok (.bipush 63, 2) := by decide +kernel
theorem dJ6_bitCount_0f7a4_51 : decode cJ6_bitCount_0f7a4 51 = .ok (.iand, 1) := by decide +kernel
theorem dJ6_bitCount_0f7a4_52 : decode cJ6_bitCount_0f7a4 52 = .ok (.ireturn, 1) := by decide +kernel
theorem dJ9_max_7cf53_0 : decode cJ9_max_7cf53 0 = .ok (.iload_n 0, 1) := by decide +kernel
theorem dJ9_max_7cf53_1 : decode cJ9_max_7cf53 1 = .ok (.iload_n 1, 1) := by decide +kernel
theorem dJ9_max_7cf53_2 : decode cJ9_max_7cf53 2 = .ok (.if_icmp .lt 7, 3) := by decide +kernel
theorem dJ9_max_7cf53_5 : decode cJ9_max_7cf53 5 = .ok (.iload_n 0, 1) := by decide +kernel
theorem dJ9_max_7cf53_6 : decode cJ9_max_7cf53 6 = .ok (.goto 4, 3) := by decide +kernel
theorem dJ9_max_7cf53_9 : decode cJ9_max_7cf53 9 = .ok (.iload_n 1, 1) := by decide +kernel
theorem dJ9_max_7cf53_10 : decode cJ9_max_7cf53 10 = .ok (.ireturn, 1) := by decide +kernel
theorem dL_below_0 : decode cL_below 0 = .ok (.iload_n 0, 1) := by decide +kernel
theorem dL_below_1 : decode cL_below 1 = .ok (.ldc 7, 2) := by decide +kernel
theorem dL_below_3 : decode cL_below 3 = .ok (.iand, 1) := by decide +kernel
theorem dL_below_4 : decode cL_below 4 = .ok (.iload_n 1, 1) := by decide +kernel
theorem dL_below_5 : decode cL_below 5 = .ok (.irem, 1) := by decide +kernel
theorem dL_below_6 : decode cL_below 6 = .ok (.ireturn, 1) := by decide +kernel
theorem dL_cell_0 : decode cL_cell 0 = .ok (.iload_n 1, 1) := by decide +kernel
theorem dL_cell_1 : decode cL_cell 1 = .ok (.aload_n 0, 1) := by decide +kernel
theorem dL_cell_2 : decode cL_cell 2 = .ok (.arraylength, 1) := by decide +kernel
theorem dL_cell_3 : decode cL_cell 3 = .ok (.if_icmp .ge 9, 3) := by decide +kernel
theorem dL_cell_6 : decode cL_cell 6 = .ok (.aload_n 0, 1) := by decide +kernel
theorem dL_cell_7 : decode cL_cell 7 = .ok (.iload_n 1, 1) := by decide +kernel
theorem dL_cell_8 : decode cL_cell 8 = .ok (.iaload, 1) := by decide +kernel
theorem dL_cell_9 : decode cL_cell 9 = .ok (.goto 9, 3) := by decide +kernel
theorem dL_cell_12 : decode cL_cell 12 = .ok (.ldc 8, 2) := by decide +kernel
theorem dL_cell_14 : decode cL_cell 14 = .ok (.iload_n 1, 1) := by decide +kernel
theorem dL_cell_15 : decode cL_cell 15 = .ok (.iconst 3, 1) := by decide +kernel
theorem dL_cell_16 : decode cL_cell 16 = .ok (.iadd, 1) := by decide +kernel
theorem dL_cell_17 : decode cL_cell 17 = .ok (.imul, 1) := by decide +kernel
theorem dL_cell_18 : decode cL_cell 18 = .ok (.ireturn, 1) := by decide +kernel
theorem dL_act_0 : decode cL_act 0 = .ok (.iload_n 2, 1) := by decide +kernel
theorem dL_act_1 : decode cL_act 1 = .ok (.bipush 9, 2) := by decide +kernel
theorem dL_act_3 : decode cL_act 3 = .ok (.ishr, 1) := by decide +kernel
theorem dL_act_4 : decode cL_act 4 = .ok (.bipush 24, 2) := by decide +kernel
theorem dL_act_6 : decode cL_act 6 = .ok (.invokestatic 9, 3) := by decide +kernel
theorem dL_act_9 : decode cL_act 9 = .ok (.istore_n 3, 1) := by decide +kernel
theorem dL_act_10 : decode cL_act 10 = .ok (.aload_n 1, 1) := by decide +kernel
theorem dL_act_11 : decode cL_act 11 = .ok (.getfield 15, 3) := by decide +kernel
theorem dL_act_14 : decode cL_act 14 = .ok (.ifCond .eq 8, 3) := by decide +kernel
theorem dL_act_17 : decode cL_act 17 = .ok (.iload_n 3, 1) := by decide +kernel
theorem dL_act_18 : decode cL_act 18 = .ok (.iconst 3, 1) := by decide +kernel
theorem dL_act_19 : decode cL_act 19 = .ok (.if_icmp .ge 53, 3) := by decide +kernel
theorem dL_act_22 : decode cL_act 22 = .ok (.aload_n 1, 1) := by decide +kernel
theorem dL_act_23 : decode cL_act 23 = .ok (.getfield 15, 3) := by decide +kernel
theorem dL_act_26 : decode cL_act 26 = .ok (.bipush 16, 2) := by decide +kernel
theorem dL_act_28 : decode cL_act 28 = .ok (.if_icmp .ne 5, 3) := by decide +kernel
theorem dL_act_31 : decode cL_act 31 = .ok (.iconst 1, 1) := by decide +kernel
theorem dL_act_32 : decode cL_act 32 = .ok (.ireturn, 1) := by decide +kernel
end
section
theorem dL_act_33 : decode cL_act 33 = .ok (.aload_n 1, 1) := by decide +kernel
theorem dL_act_34 : decode cL_act 34 = .ok (.getfield 21, 3) := by decide +kernel
theorem dL_act_37 : decode cL_act 37 = .ok (.aload_n 1, 1) := by decide +kernel
theorem dL_act_38 : decode cL_act 38 = .ok (.getfield 15, 3) := by decide +kernel
theorem dL_act_41 : decode cL_act 41 = .ok (.iconst (-1), 1) := by decide +kernel
theorem dL_act_42 : decode cL_act 42 = .ok (.iastore, 1) := by decide +kernel
theorem dL_act_43 : decode cL_act 43 = .ok (.aload_n 1, 1) := by decide +kernel
theorem dL_act_44 : decode cL_act 44 = .ok (.dup, 1) := by decide +kernel
theorem dL_act_45 : decode cL_act 45 = .ok (.getfield 15, 3) := by decide +kernel
theorem dL_act_48 : decode cL_act 48 = .ok (.iconst 1, 1) := by decide +kernel
theorem dL_act_49 : decode cL_act 49 = .ok (.iadd, 1) := by decide +kernel
theorem dL_act_50 : decode cL_act 50 = .ok (.putfield 15, 3) := by decide +kernel
theorem dL_act_53 : decode cL_act 53 = .ok (.aload_n 0, 1) := by decide +kernel
theorem dL_act_54 : decode cL_act 54 = .ok (.invokevirtual 25, 3) := by decide +kernel
theorem dL_act_57 : decode cL_act 57 = .ok (.aload_n 1, 1) := by decide +kernel
theorem dL_act_58 : decode cL_act 58 = .ok (.getfield 15, 3) := by decide +kernel
theorem dL_act_61 : decode cL_act 61 = .ok (.iconst 1, 1) := by decide +kernel
theorem dL_act_62 : decode cL_act 62 = .ok (.isub, 1) := by decide +kernel
theorem dL_act_63 : decode cL_act 63 = .ok (.if_icmp .ne 7, 3) := by decide +kernel
theorem dL_act_66 : decode cL_act 66 = .ok (.iconst 1, 1) := by decide +kernel
theorem dL_act_67 : decode cL_act 67 = .ok (.goto 4, 3) := by decide +kernel
theorem dL_act_70 : decode cL_act 70 = .ok (.iconst 0, 1) := by decide +kernel
theorem dL_act_71 : decode cL_act 71 = .ok (.ireturn, 1) := by decide +kernel
theorem dL_act_72 : decode cL_act 72 = .ok (.iload_n 2, 1) := by decide +kernel
theorem dL_act_73 : decode cL_act 73 = .ok (.iconst 1, 1) := by decide +kernel
theorem dL_act_74 : decode cL_act 74 = .ok (.ishr, 1) := by decide +kernel
theorem dL_act_75 : decode cL_act 75 = .ok (.aload_n 1, 1) := by decide +kernel
theorem dL_act_76 : decode cL_act 76 = .ok (.getfield 15, 3) := by decide +kernel
theorem dL_act_79 : decode cL_act 79 = .ok (.invokestatic 9, 3) := by decide +kernel
theorem dL_act_82 : decode cL_act 82 = .ok (.istore 4, 2) := by decide +kernel
theorem dL_act_84 : decode cL_act 84 = .ok (.iload_n 2, 1) := by decide +kernel
theorem dL_act_85 : decode cL_act 85 = .ok (.iconst 3, 1) := by decide +kernel
theorem dL_act_86 : decode cL_act 86 = .ok (.ishr, 1) := by decide +kernel
theorem dL_act_87 : decode cL_act 87 = .ok (.aload_n 1, 1) := by decide +kernel
theorem dL_act_88 : decode cL_act 88 = .ok (.getfield 15, 3) := by decide +kernel
theorem dL_act_91 : decode cL_act 91 = .ok (.invokestatic 9, 3) := by decide +kernel
theorem dL_act_94 : decode cL_act 94 = .ok (.istore 5, 2) := by decide +kernel
theorem dL_act_96 : decode cL_act 96 = .ok (.iload_n 3, 1) := by decide +kernel
theorem dL_act_97 : decode cL_act 97 = .ok (.bipush 6, 2) := by decide +kernel
theorem dL_act_99 : decode cL_act 99 = .ok (.if_icmp .ge 93, 3) := by decide +kernel
theorem dL_act_102 : decode cL_act 102 = .ok (.iload 4, 2) := by decide +kernel
theorem dL_act_104 : decode cL_act 104 = .ok (.iload 5, 2) := by decide +kernel
theorem dL_act_106 : decode cL_act 106 = .ok (.if_icmp .eq 14, 3) := by decide +kernel
theorem dL_act_109 : decode cL_act 109 = .ok (.aload_n 1, 1) := by decide +kernel
theorem dL_act_110 : decode cL_act 110 = .ok (.iload 5, 2) := by decide +kernel
theorem dL_act_112 : decode cL_act 112 = .ok (.iload 4, 2) := by decide +kernel
theorem dL_act_114 : decode cL_act 114 = .ok (.invokevirtual 31, 3) := by decide +kernel
theorem dL_act_117 : decode cL_act 117 = .ok (.ifCond .eq 5, 3) := by decide +kernel
theorem dL_act_120 : decode cL_act 120 = .ok (.iconst 1, 1) := by decide +kernel
theorem dL_act_121 : decode cL_act 121 = .ok (.ireturn, 1) := by decide +kernel
theorem dL_act_122 : decode cL_act 122 = .ok (.aload_n 1, 1) := by decide +kernel
theorem dL_act_123 : decode cL_act 123 = .ok (.getfield 21, 3) := by decide +kernel
theorem dL_act_126 : decode cL_act 126 = .ok (.iload 4, 2) := by decide +kernel
theorem dL_act_128 : decode cL_act 128 = .ok (.iload 5, 2) := by decide +kernel
theorem dL_act_130 : decode cL_act 130 = .ok (.iastore, 1) := by decide +kernel
theorem dL_act_131 : decode cL_act 131 = .ok (.iconst 0, 1) := by decide +kernel
theorem dL_act_132 : decode cL_act 132 = .ok (.istore 6, 2) := by decide +kernel
theorem dL_act_134 : decode cL_act 134 = .ok (.iconst 0, 1) := by decide +kernel
theorem dL_act_135 : decode cL_act 135 = .ok (.istore 7, 2) := by decide +kernel
theorem dL_act_137 : decode cL_act 137 = .ok (.iload 7, 2) := by decide +kernel
theorem dL_act_139 : decode cL_act 139 = .ok (.aload_n 1, 1) := by decide +kernel
theorem dL_act_140 : decode cL_act 140 = .ok (.getfield 15, 3) := by decide +kernel
theorem dL_act_143 : decode cL_act 143 = .ok (.if_icmp .ge 30, 3) := by decide +kernel
theorem dL_act_146 : decode cL_act 146 = .ok (.iload 6, 2) := by decide +kernel
theorem dL_act_148 : decode cL_act 148 = .ok (.aload_n 1, 1) := by decide +kernel
theorem dL_act_149 : decode cL_act 149 = .ok (.iload 4, 2) := by decide +kernel
theorem dL_act_151 : decode cL_act 151 = .ok (.iload 7, 2) := by decide +kernel
theorem dL_act_153 : decode cL_act 153 = .ok (.invokevirtual 31, 3) := by decide +kernel
theorem dL_act_156 : decode cL_act 156 = .ok (.ifCond .eq 7, 3) := by decide +kernel
theorem dL_act_159 : decode cL_act 159 = .ok (.iconst 1, 1) := by decide +kernel
theorem dL_act_160 : decode cL_act 160 = .ok (.goto 4, 3) := by decide +kernel
theorem dL_act_163 : decode cL_act 163 = .ok (.iconst 0, 1) := by decide +kernel
theorem dL_act_164 : decode cL_act 164 = .ok (.iadd, 1) := by decide +kernel
theorem dL_act_165 : decode cL_act 165 = .ok (.istore 6, 2) := by decide +kernel
theorem dL_act_167 : decode cL_act 167 = .ok (.iinc 7 1, 3) := by decide +kernel
theorem dL_act_170 : decode cL_act 170 = .ok (.goto (-33), 3) := by decide +kernel
theorem dL_act_173 : decode cL_act 173 = .ok (.aload_n 0, 1) := by decide +kernel
theorem dL_act_174 : decode cL_act 174 = .ok (.iload 4, 2) := by decide +kernel
theorem dL_act_176 : decode cL_act 176 = .ok (.iload 5, 2) := by decide +kernel
theorem dL_act_178 : decode cL_act 178 = .ok (.invokevirtual 35, 3) := by decide +kernel
theorem dL_act_181 : decode cL_act 181 = .ok (.iload 6, 2) := by decide +kernel
theorem dL_act_183 : decode cL_act 183 = .ok (.if_icmp .ne 7, 3) := by decide +kernel
theorem dL_act_186 : decode cL_act 186 = .ok (.iconst 1, 1) := by decide +kernel
theorem dL_act_187 : decode cL_act 187 = .ok (.goto 4, 3) := by decide +kernel
theorem dL_act_190 : decode cL_act 190 = .ok (.iconst 0, 1) := by decide +kernel
theorem dL_act_191 : decode cL_act 191 = .ok (.ireturn, 1) := by decide +kernel
theorem dL_act_192 : decode cL_act 192 = .ok (.iload_n 3, 1) := by decide +kernel
theorem dL_act_193 : decode cL_act 193 = .ok (.bipush 6, 2) := by decide +kernel
theorem dL_act_195 : decode cL_act 195 = .ok (.if_icmp .ne 49, 3) := by decide +kernel
theorem dL_act_198 : decode cL_act 198 = .ok (.aload_n 1, 1) := by decide +kernel
theorem dL_act_199 : decode cL_act 199 = .ok (.getfield 21, 3) := by decide +kernel
theorem dL_act_202 : decode cL_act 202 = .ok (.iload 4, 2) := by decide +kernel
theorem dL_act_204 : decode cL_act 204 = .ok (.iaload, 1) := by decide +kernel
theorem dL_act_205 : decode cL_act 205 = .ok (.ifCond .ge 5, 3) := by decide +kernel
theorem dL_act_208 : decode cL_act 208 = .ok (.iconst 1, 1) := by decide +kernel
theorem dL_act_209 : decode cL_act 209 = .ok (.ireturn, 1) := by decide +kernel
theorem dL_act_210 : decode cL_act 210 = .ok (.aload_n 1, 1) := by decide +kernel
theorem dL_act_211 : decode cL_act 211 = .ok (.getfield 21, 3) := by decide +kernel
theorem dL_act_214 : decode cL_act 214 = .ok (.iload 4, 2) := by decide +kernel
theorem dL_act_216 : decode cL_act 216 = .ok (.iaload, 1) := by decide +kernel
theorem dL_act_217 : decode cL_act 217 = .ok (.istore 6, 2) := by decide +kernel
theorem dL_act_219 : decode cL_act 219 = .ok (.aload_n 1, 1) := by decide +kernel
theorem dL_act_220 : decode cL_act 220 = .ok (.getfield 21, 3) := by decide +kernel
theorem dL_act_223 : decode cL_act 223 = .ok (.iload 4, 2) := by decide +kernel
theorem dL_act_225 : decode cL_act 225 = .ok (.iconst (-1), 1) := by decide +kernel
theorem dL_act_226 : decode cL_act 226 = .ok (.iastore, 1) := by decide +kernel
theorem dL_act_227 : decode cL_act 227 = .ok (.aload_n 0, 1) := by decide +kernel
theorem dL_act_228 : decode cL_act 228 = .ok (.iload 4, 2) := by decide +kernel
theorem dL_act_230 : decode cL_act 230 = .ok (.invokevirtual 38, 3) := by decide +kernel
theorem dL_act_233 : decode cL_act 233 = .ok (.iload 6, 2) := by decide +kernel
theorem dL_act_235 : decode cL_act 235 = .ok (.if_icmp .ne 7, 3) := by decide +kernel
theorem dL_act_238 : decode cL_act 238 = .ok (.iconst 1, 1) := by decide +kernel
theorem dL_act_239 : decode cL_act 239 = .ok (.goto 4, 3) := by decide +kernel
theorem dL_act_242 : decode cL_act 242 = .ok (.iconst 0, 1) := by decide +kernel
theorem dL_act_243 : decode cL_act 243 = .ok (.ireturn, 1) := by decide +kernel
theorem dL_act_244 : decode cL_act 244 = .ok (.aload_n 1, 1) := by decide +kernel
theorem dL_act_245 : decode cL_act 245 = .ok (.getfield 42, 3) := by decide +kernel
theorem dL_act_248 : decode cL_act 248 = .ok (.ifCond .eq 9, 3) := by decide +kernel
theorem dL_act_251 : decode cL_act 251 = .ok (.iload_n 3, 1) := by decide +kernel
theorem dL_act_252 : decode cL_act 252 = .ok (.bipush 11, 2) := by decide +kernel
theorem dL_act_254 : decode cL_act 254 = .ok (.if_icmp .ge 101, 3) := by decide +kernel
theorem dL_act_257 : decode cL_act 257 = .ok (.aload_n 1, 1) := by decide +kernel
theorem dL_act_258 : decode cL_act 258 = .ok (.getfield 42, 3) := by decide +kernel
theorem dL_act_261 : decode cL_act 261 = .ok (.bipush 24, 2) := by decide +kernel
theorem dL_act_263 : decode cL_act 263 = .ok (.if_icmp .ne 5, 3) := by decide +kernel
theorem dL_act_266 : decode cL_act 266 = .ok (.iconst 1, 1) := by decide +kernel
theorem dL_act_267 : decode cL_act 267 = .ok (.ireturn, 1) := by decide +kernel
theorem dL_act_268 : decode cL_act 268 = .ok (.aload_n 1, 1) := by decide +kernel
theorem dL_act_269 : decode cL_act 269 = .ok (.getfield 45, 3) := by decide +kernel
theorem dL_act_272 : decode cL_act 272 = .ok (.aload_n 1, 1) := by decide +kernel
theorem dL_act_273 : decode cL_act 273 = .ok (.getfield 42, 3) := by decide +kernel
theorem dL_act_276 : decode cL_act 276 = .ok (.aaload, 1) := by decide +kernel
theorem dL_act_277 : decode cL_act 277 = .ok (.iload 4, 2) := by decide +kernel
theorem dL_act_279 : decode cL_act 279 = .ok (.iconst 1, 1) := by decide +kernel
theorem dL_act_280 : decode cL_act 280 = .ok (.bastore, 1) := by decide +kernel
theorem dL_act_281 : decode cL_act 281 = .ok (.aload_n 1, 1) := by decide +kernel
theorem dL_act_282 : decode cL_act 282 = .ok (.getfield 49, 3) := by decide +kernel
theorem dL_act_285 : decode cL_act 285 = .ok (.aload_n 1, 1) := by decide +kernel
theorem dL_act_286 : decode cL_act 286 = .ok (.getfield 42, 3) := by decide +kernel
theorem dL_act_289 : decode cL_act 289 = .ok (.iconst 1, 1) := by decide +kernel
theorem dL_act_290 : decode cL_act 290 = .ok (.iload_n 2, 1) := by decide +kernel
theorem dL_act_291 : decode cL_act 291 = .ok (.iconst 4, 1) := by decide +kernel
theorem dL_act_292 : decode cL_act 292 = .ok (.ishr, 1) := by decide +kernel
theorem dL_act_293 : decode cL_act 293 = .ok (.bipush 9, 2) := by decide +kernel
theorem dL_act_295 : decode cL_act 295 = .ok (.invokestatic 9, 3) := by decide +kernel
theorem dL_act_298 : decode cL_act 298 = .ok (.iadd, 1) := by decide +kernel
theorem dL_act_299 : decode cL_act 299 = .ok (.iastore, 1) := by decide +kernel
theorem dL_act_300 : decode cL_act 300 = .ok (.aload_n 1, 1) := by decide +kernel
theorem dL_act_301 : decode cL_act 301 = .ok (.getfield 52, 3) := by decide +kernel
theorem dL_act_304 : decode cL_act 304 = .ok (.aload_n 1, 1) := by decide +kernel
theorem dL_act_305 : decode cL_act 305 = .ok (.getfield 42, 3) := by decide +kernel
theorem dL_act_308 : decode cL_act 308 = .ok (.aload_n 1, 1) := by decide +kernel
theorem dL_act_309 : decode cL_act 309 = .ok (.getfield 55, 3) := by decide +kernel
theorem dL_act_312 : decode cL_act 312 = .ok (.iastore, 1) := by decide +kernel
theorem dL_act_313 : decode cL_act 313 = .ok (.aload_n 1, 1) := by decide +kernel
theorem dL_act_314 : decode cL_act 314 = .ok (.dup, 1) := by decide +kernel
theorem dL_act_315 : decode cL_act 315 = .ok (.getfield 42, 3) := by decide +kernel
theorem dL_act_318 : decode cL_act 318 = .ok (.iconst 1, 1) := by decide +kernel
theorem dL_act_319 : decode cL_act 319 = .ok (.iadd, 1) := by decide +kernel
theorem dL_act_320 : decode cL_act 320 = .ok (.putfield 42, 3) := by decide +kernel
theorem dL_act_323 : decode cL_act 323 = .ok (.aload_n 0, 1) := by decide +kernel
theorem dL_act_324 : decode cL_act 324 = .ok (.iload 4, 2) := by decide +kernel
theorem dL_act_326 : decode cL_act 326 = .ok (.aload_n 1, 1) := by decide +kernel
theorem dL_act_327 : decode cL_act 327 = .ok (.getfield 49, 3) := by decide +kernel
theorem dL_act_330 : decode cL_act 330 = .ok (.aload_n 1, 1) := by decide +kernel
theorem dL_act_331 : decode cL_act 331 = .ok (.getfield 42, 3) := by decide +kernel
theorem dL_act_334 : decode cL_act 334 = .ok (.iconst 1, 1) := by decide +kernel
theorem dL_act_335 : decode cL_act 335 = .ok (.isub, 1) := by decide +kernel
theorem dL_act_336 : decode cL_act 336 = .ok (.iaload, 1) := by decide +kernel
theorem dL_act_337 : decode cL_act 337 = .ok (.invokevirtual 58, 3) := by decide +kernel
theorem dL_act_340 : decode cL_act 340 = .ok (.aload_n 1, 1) := by decide +kernel
theorem dL_act_341 : decode cL_act 341 = .ok (.getfield 42, 3) := by decide +kernel
theorem dL_act_344 : decode cL_act 344 = .ok (.iconst 1, 1) := by decide +kernel
theorem dL_act_345 : decode cL_act 345 = .ok (.isub, 1) := by decide +kernel
theorem dL_act_346 : decode cL_act 346 = .ok (.if_icmp .ne 7, 3) := by decide +kernel
theorem dL_act_349 : decode cL_act 349 = .ok (.iconst 1, 1) := by decide +kernel
theorem dL_act_350 : decode cL_act 350 = .ok (.goto 4, 3) := by decide +kernel
theorem dL_act_353 : decode cL_act 353 = .ok (.iconst 0, 1) := by decide +kernel
theorem dL_act_354 : decode cL_act 354 = .ok (.ireturn, 1) := by decide +kernel
theorem dL_act_355 : decode cL_act 355 = .ok (.iload_n 2, 1) := by decide +kernel
theorem dL_act_356 : decode cL_act 356 = .ok (.iconst 5, 1) := by decide +kernel
theorem dL_act_357 : decode cL_act 357 = .ok (.ishr, 1) := by decide +kernel
theorem dL_act_358 : decode cL_act 358 = .ok (.aload_n 1, 1) := by decide +kernel
theorem dL_act_359 : decode cL_act 359 = .ok (.getfield 42, 3) := by decide +kernel
theorem dL_act_362 : decode cL_act 362 = .ok (.invokestatic 9, 3) := by decide +kernel
theorem dL_act_365 : decode cL_act 365 = .ok (.istore 6, 2) := by decide +kernel
theorem dL_act_367 : decode cL_act 367 = .ok (.iload_n 3, 1) := by decide +kernel
theorem dL_act_368 : decode cL_act 368 = .ok (.tableswitch 346 11 17 #[44, 44, 44, 93, 152, 200, 309], 44) := by decide +kernel
theorem dL_act_412 : decode cL_act 412 = .ok (.aload_n 1, 1) := by decide +kernel
theorem dL_act_413 : decode cL_act 413 = .ok (.getfield 45, 3) := by decide +kernel
theorem dL_act_416 : decode cL_act 416 = .ok (.iload 6, 2) := by decide +kernel
theorem dL_act_418 : decode cL_act 418 = .ok (.aaload, 1) := by decide +kernel
theorem dL_act_419 : decode cL_act 419 = .ok (.iload 4, 2) := by decide +kernel
theorem dL_act_421 : decode cL_act 421 = .ok (.baload, 1) := by decide +kernel
theorem dL_act_422 : decode cL_act 422 = .ok (.ifCond .eq 5, 3) := by decide +kernel
theorem dL_act_425 : decode cL_act 425 = .ok (.iconst 1, 1) := by decide +kernel
theorem dL_act_426 : decode cL_act 426 = .ok (.ireturn, 1) := by decide +kernel
theorem dL_act_427 : decode cL_act 427 = .ok (.aload_n 1, 1) := by decide +kernel
theorem dL_act_428 : decode cL_act 428 = .ok (.getfield 45, 3) := by decide +kernel
theorem dL_act_431 : decode cL_act 431 = .ok (.iload 6, 2) := by decide +kernel
theorem dL_act_433 : decode cL_act 433 = .ok (.aaload, 1) := by decide +kernel
theorem dL_act_434 : decode cL_act 434 = .ok (.iload 4, 2) := by decide +kernel
theorem dL_act_436 : decode cL_act 436 = .ok (.iconst 1, 1) := by decide +kernel
theorem dL_act_437 : decode cL_act 437 = .ok (.bastore, 1) := by decide +kernel
theorem dL_act_438 : decode cL_act 438 = .ok (.aload_n 0, 1) := by decide +kernel
theorem dL_act_439 : decode cL_act 439 = .ok (.iload 6, 2) := by decide +kernel
theorem dL_act_441 : decode cL_act 441 = .ok (.iload 4, 2) := by decide +kernel
theorem dL_act_443 : decode cL_act 443 = .ok (.invokevirtual 61, 3) := by decide +kernel
theorem dL_act_446 : decode cL_act 446 = .ok (.aload_n 1, 1) := by decide +kernel
theorem dL_act_447 : decode cL_act 447 = .ok (.iload 6, 2) := by decide +kernel
theorem dL_act_449 : decode cL_act 449 = .ok (.invokevirtual 64, 3) := by decide +kernel
theorem dL_act_452 : decode cL_act 452 = .ok (.if_icmp .ne 7, 3) := by decide +kernel
theorem dL_act_455 : decode cL_act 455 = .ok (.iconst 1, 1) := by decide +kernel
theorem dL_act_456 : decode cL_act 456 = .ok (.goto 4, 3) := by decide +kernel
theorem dL_act_459 : decode cL_act 459 = .ok (.iconst 0, 1) := by decide +kernel
theorem dL_act_460 : decode cL_act 460 = .ok (.ireturn, 1) := by decide +kernel
theorem dL_act_461 : decode cL_act 461 = .ok (.aload_n 1, 1) := by decide +kernel
theorem dL_act_462 : decode cL_act 462 = .ok (.getfield 45, 3) := by decide +kernel
theorem dL_act_465 : decode cL_act 465 = .ok (.iload 6, 2) := by decide +kernel
theorem dL_act_467 : decode cL_act 467 = .ok (.aaload, 1) := by decide +kernel
theorem dL_act_468 : decode cL_act 468 = .ok (.iload 4, 2) := by decide +kernel
theorem dL_act_470 : decode cL_act 470 = .ok (.baload, 1) := by decide +kernel
theorem dL_act_471 : decode cL_act 471 = .ok (.ifCond .eq 13, 3) := by decide +kernel
theorem dL_act_474 : decode cL_act 474 = .ok (.aload_n 1, 1) := by decide +kernel
theorem dL_act_475 : decode cL_act 475 = .ok (.iload 6, 2) := by decide +kernel
theorem dL_act_477 : decode cL_act 477 = .ok (.invokevirtual 64, 3) := by decide +kernel
theorem dL_act_480 : decode cL_act 480 = .ok (.iconst 1, 1) := by decide +kernel
theorem dL_act_481 : decode cL_act 481 = .ok (.if_icmp .ne 5, 3) := by decide +kernel
theorem dL_act_484 : decode cL_act 484 = .ok (.iconst 1, 1) := by decide +kernel
theorem dL_act_485 : decode cL_act 485 = .ok (.ireturn, 1) := by decide +kernel
theorem dL_act_486 : decode cL_act 486 = .ok (.aload_n 1, 1) := by decide +kernel
theorem dL_act_487 : decode cL_act 487 = .ok (.getfield 45, 3) := by decide +kernel
theorem dL_act_490 : decode cL_act 490 = .ok (.iload 6, 2) := by decide +kernel
theorem dL_act_492 : decode cL_act 492 = .ok (.aaload, 1) := by decide +kernel
theorem dL_act_493 : decode cL_act 493 = .ok (.iload 4, 2) := by decide +kernel
theorem dL_act_495 : decode cL_act 495 = .ok (.iconst 0, 1) := by decide +kernel
theorem dL_act_496 : decode cL_act 496 = .ok (.bastore, 1) := by decide +kernel
theorem dL_act_497 : decode cL_act 497 = .ok (.aload_n 0, 1) := by decide +kernel
theorem dL_act_498 : decode cL_act 498 = .ok (.iload 6, 2) := by decide +kernel
theorem dL_act_500 : decode cL_act 500 = .ok (.iload 4, 2) := by decide +kernel
theorem dL_act_502 : decode cL_act 502 = .ok (.invokevirtual 67, 3) := by decide +kernel
theorem dL_act_505 : decode cL_act 505 = .ok (.aload_n 1, 1) := by decide +kernel
theorem dL_act_506 : decode cL_act 506 = .ok (.iload 6, 2) := by decide +kernel
theorem dL_act_508 : decode cL_act 508 = .ok (.invokevirtual 64, 3) := by decide +kernel
theorem dL_act_511 : decode cL_act 511 = .ok (.if_icmp .ne 7, 3) := by decide +kernel
theorem dL_act_514 : decode cL_act 514 = .ok (.iconst 1, 1) := by decide +kernel
theorem dL_act_515 : decode cL_act 515 = .ok (.goto 4, 3) := by decide +kernel
theorem dL_act_518 : decode cL_act 518 = .ok (.iconst 0, 1) := by decide +kernel
theorem dL_act_519 : decode cL_act 519 = .ok (.ireturn, 1) := by decide +kernel
theorem dL_act_520 : decode cL_act 520 = .ok (.aload_n 1, 1) := by decide +kernel
theorem dL_act_521 : decode cL_act 521 = .ok (.getfield 49, 3) := by decide +kernel
theorem dL_act_524 : decode cL_act 524 = .ok (.iload 6, 2) := by decide +kernel
theorem dL_act_526 : decode cL_act 526 = .ok (.iaload, 1) := by decide +kernel
theorem dL_act_527 : decode cL_act 527 = .ok (.istore 7, 2) := by decide +kernel
theorem dL_act_529 : decode cL_act 529 = .ok (.aload_n 1, 1) := by decide +kernel
theorem dL_act_530 : decode cL_act 530 = .ok (.getfield 49, 3) := by decide +kernel
theorem dL_act_533 : decode cL_act 533 = .ok (.iload 6, 2) := by decide +kernel
theorem dL_act_535 : decode cL_act 535 = .ok (.iload_n 2, 1) := by decide +kernel
theorem dL_act_536 : decode cL_act 536 = .ok (.iconst 3, 1) := by decide +kernel
theorem dL_act_537 : decode cL_act 537 = .ok (.ishr, 1) := by decide +kernel
theorem dL_act_538 : decode cL_act 538 = .ok (.bipush 10, 2) := by decide +kernel
theorem dL_act_540 : decode cL_act 540 = .ok (.invokestatic 9, 3) := by decide +kernel
theorem dL_act_543 : decode cL_act 543 = .ok (.iastore, 1) := by decide +kernel
theorem dL_act_544 : decode cL_act 544 = .ok (.aload_n 0, 1) := by decide +kernel
theorem dL_act_545 : decode cL_act 545 = .ok (.iload 6, 2) := by decide +kernel
theorem dL_act_547 : decode cL_act 547 = .ok (.aload_n 1, 1) := by decide +kernel
theorem dL_act_548 : decode cL_act 548 = .ok (.getfield 49, 3) := by decide +kernel
theorem dL_act_551 : decode cL_act 551 = .ok (.iload 6, 2) := by decide +kernel
theorem dL_act_553 : decode cL_act 553 = .ok (.iaload, 1) := by decide +kernel
theorem dL_act_554 : decode cL_act 554 = .ok (.invokevirtual 70, 3) := by decide +kernel
theorem dL_act_557 : decode cL_act 557 = .ok (.iload 7, 2) := by decide +kernel
theorem dL_act_559 : decode cL_act 559 = .ok (.if_icmp .ne 7, 3) := by decide +kernel
theorem dL_act_562 : decode cL_act 562 = .ok (.iconst 1, 1) := by decide +kernel
theorem dL_act_563 : decode cL_act 563 = .ok (.goto 4, 3) := by decide +kernel
theorem dL_act_566 : decode cL_act 566 = .ok (.iconst 0, 1) := by decide +kernel
theorem dL_act_567 : decode cL_act 567 = .ok (.ireturn, 1) := by decide +kernel
theorem dL_act_568 : decode cL_act 568 = .ok (.iconst 1, 1) := by decide +kernel
theorem dL_act_569 : decode cL_act 569 = .ok (.iload_n 2, 1) := by decide +kernel
theorem dL_act_570 : decode cL_act 570 = .ok (.iconst 2, 1) := by decide +kernel
theorem dL_act_571 : decode cL_act 571 = .ok (.ishr, 1) := by decide +kernel
theorem dL_act_572 : decode cL_act 572 = .ok (.iconst 3, 1) := by decide +kernel
theorem dL_act_573 : decode cL_act 573 = .ok (.invokestatic 9, 3) := by decide +kernel
theorem dL_act_576 : decode cL_act 576 = .ok (.iadd, 1) := by decide +kernel
theorem dL_act_577 : decode cL_act 577 = .ok (.istore 8, 2) := by decide +kernel
theorem dL_act_579 : decode cL_act 579 = .ok (.bipush 24, 2) := by decide +kernel
theorem dL_act_581 : decode cL_act 581 = .ok (.newarray .int, 2) := by decide +kernel
theorem dL_act_583 : decode cL_act 583 = .ok (.astore 9, 2) := by decide +kernel
theorem dL_act_585 : decode cL_act 585 = .ok (.iconst 0, 1) := by decide +kernel
theorem dL_act_586 : decode cL_act 586 = .ok (.istore 10, 2) := by decide +kernel
theorem dL_act_588 : decode cL_act 588 = .ok (.iload 10, 2) := by decide +kernel
theorem dL_act_590 : decode cL_act 590 = .ok (.aload_n 1, 1) := by decide +kernel
theorem dL_act_591 : decode cL_act 591 = .ok (.getfield 42, 3) := by decide +kernel
theorem dL_act_594 : decode cL_act 594 = .ok (.if_icmp .ge 22, 3) := by decide +kernel
theorem dL_act_597 : decode cL_act 597 = .ok (.aload 9, 2) := by decide +kernel
theorem dL_act_599 : decode cL_act 599 = .ok (.iload 10, 2) := by decide +kernel
theorem dL_act_601 : decode cL_act 601 = .ok (.aload_n 1, 1) := by decide +kernel
theorem dL_act_602 : decode cL_act 602 = .ok (.iload 10, 2) := by decide +kernel
theorem dL_act_604 : decode cL_act 604 = .ok (.iload 8, 2) := by decide +kernel
theorem dL_act_606 : decode cL_act 606 = .ok (.invokevirtual 73, 3) := by decide +kernel
theorem dL_act_609 : decode cL_act 609 = .ok (.iastore, 1) := by decide +kernel
theorem dL_act_610 : decode cL_act 610 = .ok (.iinc 10 1, 3) := by decide +kernel
theorem dL_act_613 : decode cL_act 613 = .ok (.goto (-25), 3) := by decide +kernel
theorem dL_act_616 : decode cL_act 616 = .ok (.iconst 0, 1) := by decide +kernel
theorem dL_act_617 : decode cL_act 617 = .ok (.istore 10, 2) := by decide +kernel
theorem dL_act_619 : decode cL_act 619 = .ok (.iload 10, 2) := by decide +kernel
theorem dL_act_621 : decode cL_act 621 = .ok (.aload_n 1, 1) := by decide +kernel
theorem dL_act_622 : decode cL_act 622 = .ok (.getfield 42, 3) := by decide +kernel
theorem dL_act_625 : decode cL_act 625 = .ok (.if_icmp .ge 21, 3) := by decide +kernel
theorem dL_act_628 : decode cL_act 628 = .ok (.aload_n 1, 1) := by decide +kernel
theorem dL_act_629 : decode cL_act 629 = .ok (.getfield 49, 3) := by decide +kernel
theorem dL_act_632 : decode cL_act 632 = .ok (.iload 10, 2) := by decide +kernel
theorem dL_act_634 : decode cL_act 634 = .ok (.aload 9, 2) := by decide +kernel
theorem dL_act_636 : decode cL_act 636 = .ok (.iload 10, 2) := by decide +kernel
theorem dL_act_638 : decode cL_act 638 = .ok (.iaload, 1) := by decide +kernel
theorem dL_act_639 : decode cL_act 639 = .ok (.iastore, 1) := by decide +kernel
theorem dL_act_640 : decode cL_act 640 = .ok (.iinc 10 1, 3) := by decide +kernel
theorem dL_act_643 : decode cL_act 643 = .ok (.goto (-24), 3) := by decide +kernel
theorem dL_act_646 : decode cL_act 646 = .ok (.aload_n 1, 1) := by decide +kernel
theorem dL_act_647 : decode cL_act 647 = .ok (.dup, 1) := by decide +kernel
theorem dL_act_648 : decode cL_act 648 = .ok (.getfield 55, 3) := by decide +kernel
theorem dL_act_651 : decode cL_act 651 = .ok (.iload 8, 2) := by decide +kernel
theorem dL_act_653 : decode cL_act 653 = .ok (.iadd, 1) := by decide +kernel
theorem dL_act_654 : decode cL_act 654 = .ok (.putfield 55, 3) := by decide +kernel
theorem dL_act_657 : decode cL_act 657 = .ok (.aload_n 0, 1) := by decide +kernel
theorem dL_act_658 : decode cL_act 658 = .ok (.iload 8, 2) := by decide +kernel
theorem dL_act_660 : decode cL_act 660 = .ok (.invokevirtual 76, 3) := by decide +kernel
theorem dL_act_663 : decode cL_act 663 = .ok (.aload_n 1, 1) := by decide +kernel
theorem dL_act_664 : decode cL_act 664 = .ok (.iconst 0, 1) := by decide +kernel
theorem dL_act_665 : decode cL_act 665 = .ok (.invokevirtual 79, 3) := by decide +kernel
theorem dL_act_668 : decode cL_act 668 = .ok (.if_icmp .ne 7, 3) := by decide +kernel
theorem dL_act_671 : decode cL_act 671 = .ok (.iconst 1, 1) := by decide +kernel
theorem dL_act_672 : decode cL_act 672 = .ok (.goto 4, 3) := by decide +kernel
theorem dL_act_675 : decode cL_act 675 = .ok (.iconst 0, 1) := by decide +kernel
theorem dL_act_676 : decode cL_act 676 = .ok (.ireturn, 1) := by decide +kernel
theorem dL_act_677 : decode cL_act 677 = .ok (.iload_n 2, 1) := by decide +kernel
theorem dL_act_678 : decode cL_act 678 = .ok (.bipush 6, 2) := by decide +kernel
theorem dL_act_680 : decode cL_act 680 = .ok (.invokestatic 9, 3) := by decide +kernel
theorem dL_act_683 : decode cL_act 683 = .ok (.ifCond .le 5, 3) := by decide +kernel
theorem dL_act_686 : decode cL_act 686 = .ok (.iconst 1, 1) := by decide +kernel
theorem dL_act_687 : decode cL_act 687 = .ok (.ireturn, 1) := by decide +kernel
theorem dL_act_688 : decode cL_act 688 = .ok (.aload_n 1, 1) := by decide +kernel
theorem dL_act_689 : decode cL_act 689 = .ok (.getfield 82, 3) := by decide +kernel
theorem dL_act_692 : decode cL_act 692 = .ok (.istore 10, 2) := by decide +kernel
theorem dL_act_694 : decode cL_act 694 = .ok (.aload_n 1, 1) := by decide +kernel
theorem dL_act_695 : decode cL_act 695 = .ok (.iconst 0, 1) := by decide +kernel
theorem dL_act_696 : decode cL_act 696 = .ok (.putfield 82, 3) := by decide +kernel
theorem dL_act_699 : decode cL_act 699 = .ok (.aload_n 0, 1) := by decide +kernel
theorem dL_act_700 : decode cL_act 700 = .ok (.invokevirtual 85, 3) := by decide +kernel
theorem dL_act_703 : decode cL_act 703 = .ok (.iload 10, 2) := by decide +kernel
theorem dL_act_705 : decode cL_act 705 = .ok (.if_icmp .ne 7, 3) := by decide +kernel
theorem dL_act_708 : decode cL_act 708 = .ok (.iconst 1, 1) := by decide +kernel
theorem dL_act_709 : decode cL_act 709 = .ok (.goto 4, 3) := by decide +kernel
theorem dL_act_712 : decode cL_act 712 = .ok (.iconst 0, 1) := by decide +kernel
theorem dL_act_713 : decode cL_act 713 = .ok (.ireturn, 1) := by decide +kernel
theorem dL_act_714 : decode cL_act 714 = .ok (.aload_n 1, 1) := by decide +kernel
theorem dL_act_715 : decode cL_act 715 = .ok (.getfield 82, 3) := by decide +kernel
theorem dL_act_718 : decode cL_act 718 = .ok (.bipush 20, 2) := by decide +kernel
theorem dL_act_720 : decode cL_act 720 = .ok (.if_icmp .ne 5, 3) := by decide +kernel
theorem dL_act_723 : decode cL_act 723 = .ok (.iconst 1, 1) := by decide +kernel
theorem dL_act_724 : decode cL_act 724 = .ok (.ireturn, 1) := by decide +kernel
theorem dL_act_725 : decode cL_act 725 = .ok (.aload_n 1, 1) := by decide +kernel
theorem dL_act_726 : decode cL_act 726 = .ok (.getfield 82, 3) := by decide +kernel
theorem dL_act_729 : decode cL_act 729 = .ok (.istore 11, 2) := by decide +kernel
theorem dL_act_731 : decode cL_act 731 = .ok (.iload 11, 2) := by decide +kernel
theorem dL_act_733 : decode cL_act 733 = .ok (.ifCond .eq 9, 3) := by decide +kernel
theorem dL_act_736 : decode cL_act 736 = .ok (.iload_n 3, 1) := by decide +kernel
theorem dL_act_737 : decode cL_act 737 = .ok (.bipush 20, 2) := by decide +kernel
theorem dL_act_739 : decode cL_act 739 = .ok (.if_icmp .ge 7, 3) := by decide +kernel
theorem dL_act_742 : decode cL_act 742 = .ok (.iconst 0, 1) := by decide +kernel
theorem dL_act_743 : decode cL_act 743 = .ok (.goto 12, 3) := by decide +kernel
theorem dL_act_746 : decode cL_act 746 = .ok (.iconst 1, 1) := by decide +kernel
theorem dL_act_747 : decode cL_act 747 = .ok (.iload_n 2, 1) := by decide +kernel
theorem dL_act_748 : decode cL_act 748 = .ok (.iconst 4, 1) := by decide +kernel
theorem dL_act_749 : decode cL_act 749 = .ok (.ishr, 1) := by decide +kernel
theorem dL_act_750 : decode cL_act 750 = .ok (.iconst 3, 1) := by decide +kernel
theorem dL_act_751 : decode cL_act 751 = .ok (.invokestatic 9, 3) := by decide +kernel
theorem dL_act_754 : decode cL_act 754 = .ok (.iadd, 1) := by decide +kernel
theorem dL_act_755 : decode cL_act 755 = .ok (.istore 12, 2) := by decide +kernel
theorem dL_act_757 : decode cL_act 757 = .ok (.iload 12, 2) := by decide +kernel
theorem dL_act_759 : decode cL_act 759 = .ok (.ifCond .ne 8, 3) := by decide +kernel
theorem dL_act_762 : decode cL_act 762 = .ok (.iload 4, 2) := by decide +kernel
theorem dL_act_764 : decode cL_act 764 = .ok (.goto 11, 3) := by decide +kernel
theorem dL_act_767 : decode cL_act 767 = .ok (.iload_n 2, 1) := by decide +kernel
theorem dL_act_768 : decode cL_act 768 = .ok (.iconst 2, 1) := by decide +kernel
theorem dL_act_769 : decode cL_act 769 = .ok (.ishr, 1) := by decide +kernel
theorem dL_act_770 : decode cL_act 770 = .ok (.iload 11, 2) := by decide +kernel
theorem dL_act_772 : decode cL_act 772 = .ok (.invokestatic 9, 3) := by decide +kernel
theorem dL_act_775 : decode cL_act 775 = .ok (.istore 13, 2) := by decide +kernel
theorem dL_act_777 : decode cL_act 777 = .ok (.iload 12, 2) := by decide +kernel
theorem dL_act_779 : decode cL_act 779 = .ok (.ifCond .ne 7, 3) := by decide +kernel
theorem dL_act_782 : decode cL_act 782 = .ok (.iconst 0, 1) := by decide +kernel
theorem dL_act_783 : decode cL_act 783 = .ok (.goto 11, 3) := by decide +kernel
theorem dL_act_786 : decode cL_act 786 = .ok (.iload_n 2, 1) := by decide +kernel
theorem dL_act_787 : decode cL_act 787 = .ok (.iconst 5, 1) := by decide +kernel
theorem dL_act_788 : decode cL_act 788 = .ok (.ishr, 1) := by decide +kernel
theorem dL_act_789 : decode cL_act 789 = .ok (.iload 11, 2) := by decide +kernel
theorem dL_act_791 : decode cL_act 791 = .ok (.invokestatic 9, 3) := by decide +kernel
theorem dL_act_794 : decode cL_act 794 = .ok (.istore 14, 2) := by decide +kernel
theorem dL_act_796 : decode cL_act 796 = .ok (.aload_n 1, 1) := by decide +kernel
theorem dL_act_797 : decode cL_act 797 = .ok (.getfield 88, 3) := by decide +kernel
theorem dL_act_800 : decode cL_act 800 = .ok (.iload 11, 2) := by decide +kernel
theorem dL_act_802 : decode cL_act 802 = .ok (.iconst 3, 1) := by decide +kernel
theorem dL_act_803 : decode cL_act 803 = .ok (.newarray .int, 2) := by decide +kernel
theorem dL_act_805 : decode cL_act 805 = .ok (.dup, 1) := by decide +kernel
theorem dL_act_806 : decode cL_act 806 = .ok (.iconst 0, 1) := by decide +kernel
theorem dL_act_807 : decode cL_act 807 = .ok (.iload 12, 2) := by decide +kernel
theorem dL_act_809 : decode cL_act 809 = .ok (.iastore, 1) := by decide +kernel
theorem dL_act_810 : decode cL_act 810 = .ok (.dup, 1) := by decide +kernel
theorem dL_act_811 : decode cL_act 811 = .ok (.iconst 1, 1) := by decide +kernel
theorem dL_act_812 : decode cL_act 812 = .ok (.iload 13, 2) := by decide +kernel
theorem dL_act_814 : decode cL_act 814 = .ok (.iastore, 1) := by decide +kernel
theorem dL_act_815 : decode cL_act 815 = .ok (.dup, 1) := by decide +kernel
theorem dL_act_816 : decode cL_act 816 = .ok (.iconst 2, 1) := by decide +kernel
theorem dL_act_817 : decode cL_act 817 = .ok (.iload 14, 2) := by decide +kernel
theorem dL_act_819 : decode cL_act 819 = .ok (.iastore, 1) := by decide +kernel
theorem dL_act_820 : decode cL_act 820 = .ok (.aastore, 1) := by decide +kernel
theorem dL_act_821 : decode cL_act 821 = .ok (.aload_n 1, 1) := by decide +kernel
theorem dL_act_822 : decode cL_act 822 = .ok (.dup, 1) := by decide +kernel
theorem dL_act_823 : decode cL_act 823 = .ok (.getfield 82, 3) := by decide +kernel
theorem dL_act_826 : decode cL_act 826 = .ok (.iconst 1, 1) := by decide +kernel
theorem dL_act_827 : decode cL_act 827 = .ok (.iadd, 1) := by decide +kernel
theorem dL_act_828 : decode cL_act 828 = .ok (.putfield 82, 3) := by decide +kernel
theorem dL_act_831 : decode cL_act 831 = .ok (.iload 12, 2) := by decide +kernel
theorem dL_act_833 : decode cL_act 833 = .ok (.ifCond .ne 12, 3) := by decide +kernel
theorem dL_act_836 : decode cL_act 836 = .ok (.aload_n 0, 1) := by decide +kernel
theorem dL_act_837 : decode cL_act 837 = .ok (.iload 13, 2) := by decide +kernel
theorem dL_act_839 : decode cL_act 839 = .ok (.invokevirtual 92, 3) := by decide +kernel
theorem dL_act_842 : decode cL_act 842 = .ok (.goto 43, 3) := by decide +kernel
theorem dL_act_845 : decode cL_act 845 = .ok (.iload 12, 2) := by decide +kernel
theorem dL_act_847 : decode cL_act 847 = .ok (.iconst 1, 1) := by decide +kernel
theorem dL_act_848 : decode cL_act 848 = .ok (.if_icmp .ne 14, 3) := by decide +kernel
theorem dL_act_851 : decode cL_act 851 = .ok (.aload_n 0, 1) := by decide +kernel
theorem dL_act_852 : decode cL_act 852 = .ok (.iload 13, 2) := by decide +kernel
theorem dL_act_854 : decode cL_act 854 = .ok (.iload 14, 2) := by decide +kernel
theorem dL_act_856 : decode cL_act 856 = .ok (.invokevirtual 95, 3) := by decide +kernel
theorem dL_act_859 : decode cL_act 859 = .ok (.goto 26, 3) := by decide +kernel
theorem dL_act_862 : decode cL_act 862 = .ok (.iload 12, 2) := by decide +kernel
theorem dL_act_864 : decode cL_act 864 = .ok (.iconst 2, 1) := by decide +kernel
theorem dL_act_865 : decode cL_act 865 = .ok (.if_icmp .ne 14, 3) := by decide +kernel
theorem dL_act_868 : decode cL_act 868 = .ok (.aload_n 0, 1) := by decide +kernel
theorem dL_act_869 : decode cL_act 869 = .ok (.iload 13, 2) := by decide +kernel
theorem dL_act_871 : decode cL_act 871 = .ok (.iload 14, 2) := by decide +kernel
theorem dL_act_873 : decode cL_act 873 = .ok (.invokevirtual 98, 3) := by decide +kernel
theorem dL_act_876 : decode cL_act 876 = .ok (.goto 9, 3) := by decide +kernel
theorem dL_act_879 : decode cL_act 879 = .ok (.aload_n 0, 1) := by decide +kernel
theorem dL_act_880 : decode cL_act 880 = .ok (.iload 13, 2) := by decide +kernel
theorem dL_act_882 : decode cL_act 882 = .ok (.invokevirtual 101, 3) := by decide +kernel
theorem dL_act_885 : decode cL_act 885 = .ok (.iload 11, 2) := by decide +kernel
theorem dL_act_887 : decode cL_act 887 = .ok (.if_icmp .ne 7, 3) := by decide +kernel
theorem dL_act_890 : decode cL_act 890 = .ok (.iconst 1, 1) := by decide +kernel
theorem dL_act_891 : decode cL_act 891 = .ok (.goto 4, 3) := by decide +kernel
theorem dL_act_894 : decode cL_act 894 = .ok (.iconst 0, 1) := by decide +kernel
theorem dL_act_895 : decode cL_act 895 = .ok (.ireturn, 1) := by decide +kernel
theorem dL_build_0 : decode cL_build 0 = .ok (.new 16, 3) := by decide +kernel
theorem dL_build_3 : decode cL_build 3 = .ok (.dup, 1) := by decide +kernel
theorem dL_build_4 : decode cL_build 4 = .ok (.invokespecial 104, 3) := by decide +kernel
theorem dL_build_7 : decode cL_build 7 = .ok (.astore_n 2, 1) := by decide +kernel
theorem dL_build_8 : decode cL_build 8 = .ok (.bipush 24, 2) := by decide +kernel
theorem dL_build_10 : decode cL_build 10 = .ok (.aload_n 1, 1) := by decide +kernel
theorem dL_build_11 : decode cL_build 11 = .ok (.iconst 0, 1) := by decide +kernel
theorem dL_build_12 : decode cL_build 12 = .ok (.invokestatic 105, 3) := by decide +kernel
theorem dL_build_15 : decode cL_build 15 = .ok (.bipush 44, 2) := by decide +kernel
theorem dL_build_17 : decode cL_build 17 = .ok (.invokestatic 9, 3) := by decide +kernel
theorem dL_build_20 : decode cL_build 20 = .ok (.iadd, 1) := by decide +kernel
theorem dL_build_21 : decode cL_build 21 = .ok (.istore_n 3, 1) := by decide +kernel
theorem dL_build_22 : decode cL_build 22 = .ok (.iconst 0, 1) := by decide +kernel
theorem dL_build_23 : decode cL_build 23 = .ok (.istore 4, 2) := by decide +kernel
theorem dL_build_25 : decode cL_build 25 = .ok (.iload 4, 2) := by decide +kernel
theorem dL_build_27 : decode cL_build 27 = .ok (.iload_n 3, 1) := by decide +kernel
theorem dL_build_28 : decode cL_build 28 = .ok (.if_icmp .ge 43, 3) := by decide +kernel
theorem dL_build_31 : decode cL_build 31 = .ok (.aload_n 0, 1) := by decide +kernel
theorem dL_build_32 : decode cL_build 32 = .ok (.aload_n 2, 1) := by decide +kernel
theorem dL_build_33 : decode cL_build 33 = .ok (.aload_n 1, 1) := by decide +kernel
theorem dL_build_34 : decode cL_build 34 = .ok (.iload 4, 2) := by decide +kernel
theorem dL_build_36 : decode cL_build 36 = .ok (.bipush 16, 2) := by decide +kernel
theorem dL_build_38 : decode cL_build 38 = .ok (.irem, 1) := by decide +kernel
theorem dL_build_39 : decode cL_build 39 = .ok (.invokestatic 105, 3) := by decide +kernel
theorem dL_build_42 : decode cL_build 42 = .ok (.iload 4, 2) := by decide +kernel
theorem dL_build_44 : decode cL_build 44 = .ok (.bipush 16, 2) := by decide +kernel
theorem dL_build_46 : decode cL_build 46 = .ok (.idiv, 1) := by decide +kernel
theorem dL_build_47 : decode cL_build 47 = .ok (.iconst 3, 1) := by decide +kernel
theorem dL_build_48 : decode cL_build 48 = .ok (.imul, 1) := by decide +kernel
theorem dL_build_49 : decode cL_build 49 = .ok (.ishr, 1) := by decide +kernel
theorem dL_build_50 : decode cL_build 50 = .ok (.sipush 509, 3) := by decide +kernel
theorem dL_build_53 : decode cL_build 53 = .ok (.iload 4, 2) := by decide +kernel
theorem dL_build_55 : decode cL_build 55 = .ok (.imul, 1) := by decide +kernel
theorem dL_build_56 : decode cL_build 56 = .ok (.iadd, 1) := by decide +kernel
theorem dL_build_57 : decode cL_build 57 = .ok (.invokestatic 109, 3) := by decide +kernel
theorem dL_build_60 : decode cL_build 60 = .ok (.ifCond .ne 5, 3) := by decide +kernel
theorem dL_build_63 : decode cL_build 63 = .ok (.aconst_null, 1) := by decide +kernel
theorem dL_build_64 : decode cL_build 64 = .ok (.areturn, 1) := by decide +kernel
theorem dL_build_65 : decode cL_build 65 = .ok (.iinc 4 1, 3) := by decide +kernel
theorem dL_build_68 : decode cL_build 68 = .ok (.goto (-43), 3) := by decide +kernel
theorem dL_build_71 : decode cL_build 71 = .ok (.aload_n 2, 1) := by decide +kernel
theorem dL_build_72 : decode cL_build 72 = .ok (.areturn, 1) := by decide +kernel
theorem dL_law_0 : decode cL_law 0 = .ok (.new 26, 3) := by decide +kernel
theorem dL_law_3 : decode cL_law 3 = .ok (.dup, 1) := by decide +kernel
theorem dL_law_4 : decode cL_law 4 = .ok (.invokespecial 113, 3) := by decide +kernel
theorem dL_law_7 : decode cL_law 7 = .ok (.astore_n 1, 1) := by decide +kernel
theorem dL_law_8 : decode cL_law 8 = .ok (.aload_n 1, 1) := by decide +kernel
theorem dL_law_9 : decode cL_law 9 = .ok (.aload_n 0, 1) := by decide +kernel
theorem dL_law_10 : decode cL_law 10 = .ok (.invokestatic 114, 3) := by decide +kernel
theorem dL_law_13 : decode cL_law 13 = .ok (.astore_n 2, 1) := by decide +kernel
theorem dL_law_14 : decode cL_law 14 = .ok (.aload_n 2, 1) := by decide +kernel
theorem dL_law_15 : decode cL_law 15 = .ok (.ifnonnull 5, 3) := by decide +kernel
theorem dL_law_18 : decode cL_law 18 = .ok (.iconst 0, 1) := by decide +kernel
theorem dL_law_19 : decode cL_law 19 = .ok (.ireturn, 1) := by decide +kernel
theorem dL_law_20 : decode cL_law 20 = .ok (.iconst 0, 1) := by decide +kernel
theorem dL_law_21 : decode cL_law 21 = .ok (.istore_n 3, 1) := by decide +kernel
theorem dL_law_22 : decode cL_law 22 = .ok (.iload_n 3, 1) := by decide +kernel
theorem dL_law_23 : decode cL_law 23 = .ok (.bipush 12, 2) := by decide +kernel
theorem dL_law_25 : decode cL_law 25 = .ok (.if_icmp .ge 856, 3) := by decide +kernel
theorem dL_law_28 : decode cL_law 28 = .ok (.aload_n 0, 1) := by decide +kernel
theorem dL_law_29 : decode cL_law 29 = .ok (.iload_n 3, 1) := by decide +kernel
theorem dL_law_30 : decode cL_law 30 = .ok (.bipush 16, 2) := by decide +kernel
theorem dL_law_32 : decode cL_law 32 = .ok (.irem, 1) := by decide +kernel
theorem dL_law_33 : decode cL_law 33 = .ok (.invokestatic 105, 3) := by decide +kernel
theorem dL_law_36 : decode cL_law 36 = .ok (.iload_n 3, 1) := by decide +kernel
theorem dL_law_37 : decode cL_law 37 = .ok (.bipush 16, 2) := by decide +kernel
theorem dL_law_39 : decode cL_law 39 = .ok (.idiv, 1) := by decide +kernel
theorem dL_law_40 : decode cL_law 40 = .ok (.iconst 3, 1) := by decide +kernel
theorem dL_law_41 : decode cL_law 41 = .ok (.imul, 1) := by decide +kernel
theorem dL_law_42 : decode cL_law 42 = .ok (.ishr, 1) := by decide +kernel
theorem dL_law_43 : decode cL_law 43 = .ok (.sipush 509, 3) := by decide +kernel
theorem dL_law_46 : decode cL_law 46 = .ok (.iload_n 3, 1) := by decide +kernel
theorem dL_law_47 : decode cL_law 47 = .ok (.imul, 1) := by decide +kernel
theorem dL_law_48 : decode cL_law 48 = .ok (.iadd, 1) := by decide +kernel
theorem dL_law_49 : decode cL_law 49 = .ok (.istore 4, 2) := by decide +kernel
theorem dL_law_51 : decode cL_law 51 = .ok (.iconst 0, 1) := by decide +kernel
theorem dL_law_52 : decode cL_law 52 = .ok (.istore 5, 2) := by decide +kernel
theorem dL_law_54 : decode cL_law 54 = .ok (.iload 5, 2) := by decide +kernel
theorem dL_law_56 : decode cL_law 56 = .ok (.iconst 2, 1) := by decide +kernel
theorem dL_law_57 : decode cL_law 57 = .ok (.if_icmp .ge 33, 3) := by decide +kernel
theorem dL_law_60 : decode cL_law 60 = .ok (.aload_n 1, 1) := by decide +kernel
theorem dL_law_61 : decode cL_law 61 = .ok (.aload_n 2, 1) := by decide +kernel
theorem dL_law_62 : decode cL_law 62 = .ok (.iload 4, 2) := by decide +kernel
theorem dL_law_64 : decode cL_law 64 = .ok (.iconst 2, 1) := by decide +kernel
theorem dL_law_65 : decode cL_law 65 = .ok (.iload 5, 2) := by decide +kernel
theorem dL_law_67 : decode cL_law 67 = .ok (.imul, 1) := by decide +kernel
theorem dL_law_68 : decode cL_law 68 = .ok (.ishr, 1) := by decide +kernel
theorem dL_law_69 : decode cL_law 69 = .ok (.sipush 397, 3) := by decide +kernel
theorem dL_law_72 : decode cL_law 72 = .ok (.iload 5, 2) := by decide +kernel
theorem dL_law_74 : decode cL_law 74 = .ok (.imul, 1) := by decide +kernel
theorem dL_law_75 : decode cL_law 75 = .ok (.iadd, 1) := by decide +kernel
theorem dL_law_76 : decode cL_law 76 = .ok (.invokestatic 109, 3) := by decide +kernel
theorem dL_law_79 : decode cL_law 79 = .ok (.ifCond .ne 5, 3) := by decide +kernel
theorem dL_law_82 : decode cL_law 82 = .ok (.iconst 0, 1) := by decide +kernel
theorem dL_law_83 : decode cL_law 83 = .ok (.ireturn, 1) := by decide +kernel
theorem dL_law_84 : decode cL_law 84 = .ok (.iinc 5 1, 3) := by decide +kernel
theorem dL_law_87 : decode cL_law 87 = .ok (.goto (-33), 3) := by decide +kernel
theorem dL_law_90 : decode cL_law 90 = .ok (.aload_n 1, 1) := by decide +kernel
theorem dL_law_91 : decode cL_law 91 = .ok (.invokevirtual 118, 3) := by decide +kernel
theorem dL_law_94 : decode cL_law 94 = .ok (.istore 5, 2) := by decide +kernel
theorem dL_law_96 : decode cL_law 96 = .ok (.aload_n 1, 1) := by decide +kernel
theorem dL_law_97 : decode cL_law 97 = .ok (.invokevirtual 120, 3) := by decide +kernel
theorem dL_law_100 : decode cL_law 100 = .ok (.istore 6, 2) := by decide +kernel
theorem dL_law_102 : decode cL_law 102 = .ok (.iconst 0, 1) := by decide +kernel
theorem dL_law_103 : decode cL_law 103 = .ok (.istore 7, 2) := by decide +kernel
theorem dL_law_105 : decode cL_law 105 = .ok (.iconst 0, 1) := by decide +kernel
theorem dL_law_106 : decode cL_law 106 = .ok (.istore 8, 2) := by decide +kernel
theorem dL_law_108 : decode cL_law 108 = .ok (.iconst 0, 1) := by decide +kernel
theorem dL_law_109 : decode cL_law 109 = .ok (.istore 9, 2) := by decide +kernel
theorem dL_law_111 : decode cL_law 111 = .ok (.iload 9, 2) := by decide +kernel
theorem dL_law_113 : decode cL_law 113 = .ok (.iload 5, 2) := by decide +kernel
theorem dL_law_115 : decode cL_law 115 = .ok (.if_icmp .ge 292, 3) := by decide +kernel
theorem dL_law_118 : decode cL_law 118 = .ok (.iload 7, 2) := by decide +kernel
theorem dL_law_120 : decode cL_law 120 = .ok (.aload_n 1, 1) := by decide +kernel
theorem dL_law_121 : decode cL_law 121 = .ok (.iload 9, 2) := by decide +kernel
theorem dL_law_123 : decode cL_law 123 = .ok (.invokevirtual 122, 3) := by decide +kernel
theorem dL_law_126 : decode cL_law 126 = .ok (.iadd, 1) := by decide +kernel
theorem dL_law_127 : decode cL_law 127 = .ok (.istore 7, 2) := by decide +kernel
theorem dL_law_129 : decode cL_law 129 = .ok (.iload 8, 2) := by decide +kernel
theorem dL_law_131 : decode cL_law 131 = .ok (.aload_n 1, 1) := by decide +kernel
theorem dL_law_132 : decode cL_law 132 = .ok (.iload 9, 2) := by decide +kernel
theorem dL_law_134 : decode cL_law 134 = .ok (.invokevirtual 125, 3) := by decide +kernel
theorem dL_law_137 : decode cL_law 137 = .ok (.iadd, 1) := by decide +kernel
theorem dL_law_138 : decode cL_law 138 = .ok (.istore 8, 2) := by decide +kernel
theorem dL_law_140 : decode cL_law 140 = .ok (.aload_n 1, 1) := by decide +kernel
theorem dL_law_141 : decode cL_law 141 = .ok (.iload 9, 2) := by decide +kernel
theorem dL_law_143 : decode cL_law 143 = .ok (.iload 9, 2) := by decide +kernel
theorem dL_law_145 : decode cL_law 145 = .ok (.invokevirtual 128, 3) := by decide +kernel
theorem dL_law_148 : decode cL_law 148 = .ok (.ifCond .ne 37, 3) := by decide +kernel
theorem dL_law_151 : decode cL_law 151 = .ok (.aload_n 1, 1) := by decide +kernel
theorem dL_law_152 : decode cL_law 152 = .ok (.iload 9, 2) := by decide +kernel
theorem dL_law_154 : decode cL_law 154 = .ok (.invokevirtual 129, 3) := by decide +kernel
theorem dL_law_157 : decode cL_law 157 = .ok (.aload_n 1, 1) := by decide +kernel
theorem dL_law_158 : decode cL_law 158 = .ok (.iload 9, 2) := by decide +kernel
theorem dL_law_160 : decode cL_law 160 = .ok (.invokevirtual 122, 3) := by decide +kernel
theorem dL_law_163 : decode cL_law 163 = .ok (.ifCond .le 7, 3) := by decide +kernel
theorem dL_law_166 : decode cL_law 166 = .ok (.iconst 1, 1) := by decide +kernel
theorem dL_law_167 : decode cL_law 167 = .ok (.goto 4, 3) := by decide +kernel
theorem dL_law_170 : decode cL_law 170 = .ok (.iconst 0, 1) := by decide +kernel
theorem dL_law_171 : decode cL_law 171 = .ok (.if_icmp .ne 14, 3) := by decide +kernel
theorem dL_law_174 : decode cL_law 174 = .ok (.aload_n 1, 1) := by decide +kernel
theorem dL_law_175 : decode cL_law 175 = .ok (.iload 9, 2) := by decide +kernel
theorem dL_law_177 : decode cL_law 177 = .ok (.invokevirtual 133, 3) := by decide +kernel
theorem dL_law_180 : decode cL_law 180 = .ok (.iload 6, 2) := by decide +kernel
theorem dL_law_182 : decode cL_law 182 = .ok (.if_icmp .le 5, 3) := by decide +kernel
theorem dL_law_185 : decode cL_law 185 = .ok (.iconst 0, 1) := by decide +kernel
theorem dL_law_186 : decode cL_law 186 = .ok (.ireturn, 1) := by decide +kernel
theorem dL_law_187 : decode cL_law 187 = .ok (.aload_n 1, 1) := by decide +kernel
theorem dL_law_188 : decode cL_law 188 = .ok (.iload 9, 2) := by decide +kernel
theorem dL_law_190 : decode cL_law 190 = .ok (.invokevirtual 129, 3) := by decide +kernel
theorem dL_law_193 : decode cL_law 193 = .ok (.ifCond .eq 108, 3) := by decide +kernel
theorem dL_law_196 : decode cL_law 196 = .ok (.aload_n 1, 1) := by decide +kernel
theorem dL_law_197 : decode cL_law 197 = .ok (.iload 9, 2) := by decide +kernel
theorem dL_law_199 : decode cL_law 199 = .ok (.invokevirtual 136, 3) := by decide +kernel
theorem dL_law_202 : decode cL_law 202 = .ok (.istore 10, 2) := by decide +kernel
theorem dL_law_204 : decode cL_law 204 = .ok (.aload_n 1, 1) := by decide +kernel
theorem dL_law_205 : decode cL_law 205 = .ok (.iload 9, 2) := by decide +kernel
theorem dL_law_207 : decode cL_law 207 = .ok (.invokevirtual 122, 3) := by decide +kernel
theorem dL_law_210 : decode cL_law 210 = .ok (.iconst 1, 1) := by decide +kernel
theorem dL_law_211 : decode cL_law 211 = .ok (.aload_n 1, 1) := by decide +kernel
theorem dL_law_212 : decode cL_law 212 = .ok (.iload 10, 2) := by decide +kernel
theorem dL_law_214 : decode cL_law 214 = .ok (.invokevirtual 122, 3) := by decide +kernel
theorem dL_law_217 : decode cL_law 217 = .ok (.iadd, 1) := by decide +kernel
theorem dL_law_218 : decode cL_law 218 = .ok (.if_icmp .ne 29, 3) := by decide +kernel
theorem dL_law_221 : decode cL_law 221 = .ok (.aload_n 1, 1) := by decide +kernel
theorem dL_law_222 : decode cL_law 222 = .ok (.iload 9, 2) := by decide +kernel
theorem dL_law_224 : decode cL_law 224 = .ok (.iload 10, 2) := by decide +kernel
theorem dL_law_226 : decode cL_law 226 = .ok (.invokevirtual 128, 3) := by decide +kernel
theorem dL_law_229 : decode cL_law 229 = .ok (.ifCond .eq 18, 3) := by decide +kernel
theorem dL_law_232 : decode cL_law 232 = .ok (.aload_n 1, 1) := by decide +kernel
theorem dL_law_233 : decode cL_law 233 = .ok (.iload 10, 2) := by decide +kernel
theorem dL_law_235 : decode cL_law 235 = .ok (.invokevirtual 133, 3) := by decide +kernel
theorem dL_law_238 : decode cL_law 238 = .ok (.aload_n 1, 1) := by decide +kernel
theorem dL_law_239 : decode cL_law 239 = .ok (.iload 9, 2) := by decide +kernel
theorem dL_law_241 : decode cL_law 241 = .ok (.invokevirtual 133, 3) := by decide +kernel
theorem dL_law_244 : decode cL_law 244 = .ok (.if_icmp .ge 5, 3) := by decide +kernel
theorem dL_law_247 : decode cL_law 247 = .ok (.iconst 0, 1) := by decide +kernel
theorem dL_law_248 : decode cL_law 248 = .ok (.ireturn, 1) := by decide +kernel
theorem dL_law_249 : decode cL_law 249 = .ok (.iconst 0, 1) := by decide +kernel
theorem dL_law_250 : decode cL_law 250 = .ok (.istore 11, 2) := by decide +kernel
theorem dL_law_252 : decode cL_law 252 = .ok (.iload 11, 2) := by decide +kernel
theorem dL_law_254 : decode cL_law 254 = .ok (.iload 5, 2) := by decide +kernel
theorem dL_law_256 : decode cL_law 256 = .ok (.if_icmp .ge 45, 3) := by decide +kernel
theorem dL_law_259 : decode cL_law 259 = .ok (.aload_n 1, 1) := by decide +kernel
theorem dL_law_260 : decode cL_law 260 = .ok (.iload 9, 2) := by decide +kernel
theorem dL_law_262 : decode cL_law 262 = .ok (.iload 11, 2) := by decide +kernel
theorem dL_law_264 : decode cL_law 264 = .ok (.invokevirtual 128, 3) := by decide +kernel
theorem dL_law_267 : decode cL_law 267 = .ok (.iload 11, 2) := by decide +kernel
theorem dL_law_269 : decode cL_law 269 = .ok (.iload 10, 2) := by decide +kernel
theorem dL_law_271 : decode cL_law 271 = .ok (.if_icmp .eq 14, 3) := by decide +kernel
theorem dL_law_274 : decode cL_law 274 = .ok (.aload_n 1, 1) := by decide +kernel
theorem dL_law_275 : decode cL_law 275 = .ok (.iload 10, 2) := by decide +kernel
theorem dL_law_277 : decode cL_law 277 = .ok (.iload 11, 2) := by decide +kernel
theorem dL_law_279 : decode cL_law 279 = .ok (.invokevirtual 128, 3) := by decide +kernel
theorem dL_law_282 : decode cL_law 282 = .ok (.ifCond .eq 7, 3) := by decide +kernel
theorem dL_law_285 : decode cL_law 285 = .ok (.iconst 1, 1) := by decide +kernel
theorem dL_law_286 : decode cL_law 286 = .ok (.goto 4, 3) := by decide +kernel
theorem dL_law_289 : decode cL_law 289 = .ok (.iconst 0, 1) := by decide +kernel
theorem dL_law_290 : decode cL_law 290 = .ok (.if_icmp .eq 5, 3) := by decide +kernel
theorem dL_law_293 : decode cL_law 293 = .ok (.iconst 0, 1) := by decide +kernel
theorem dL_law_294 : decode cL_law 294 = .ok (.ireturn, 1) := by decide +kernel
theorem dL_law_295 : decode cL_law 295 = .ok (.iinc 11 1, 3) := by decide +kernel
theorem dL_law_298 : decode cL_law 298 = .ok (.goto (-46), 3) := by decide +kernel
theorem dL_law_301 : decode cL_law 301 = .ok (.iload 4, 2) := by decide +kernel
theorem dL_law_303 : decode cL_law 303 = .ok (.iconst 2, 1) := by decide +kernel
theorem dL_law_304 : decode cL_law 304 = .ok (.iload 9, 2) := by decide +kernel
theorem dL_law_306 : decode cL_law 306 = .ok (.iconst 5, 1) := by decide +kernel
theorem dL_law_307 : decode cL_law 307 = .ok (.irem, 1) := by decide +kernel
theorem dL_law_308 : decode cL_law 308 = .ok (.iadd, 1) := by decide +kernel
theorem dL_law_309 : decode cL_law 309 = .ok (.ishr, 1) := by decide +kernel
theorem dL_law_310 : decode cL_law 310 = .ok (.iload 5, 2) := by decide +kernel
theorem dL_law_312 : decode cL_law 312 = .ok (.invokestatic 9, 3) := by decide +kernel
theorem dL_law_315 : decode cL_law 315 = .ok (.istore 10, 2) := by decide +kernel
theorem dL_law_317 : decode cL_law 317 = .ok (.aload_n 1, 1) := by decide +kernel
theorem dL_law_318 : decode cL_law 318 = .ok (.iload 9, 2) := by decide +kernel
theorem dL_law_320 : decode cL_law 320 = .ok (.iload 10, 2) := by decide +kernel
theorem dL_law_322 : decode cL_law 322 = .ok (.invokevirtual 139, 3) := by decide +kernel
theorem dL_law_325 : decode cL_law 325 = .ok (.istore 11, 2) := by decide +kernel
theorem dL_law_327 : decode cL_law 327 = .ok (.iload 11, 2) := by decide +kernel
theorem dL_law_329 : decode cL_law 329 = .ok (.aload_n 1, 1) := by decide +kernel
theorem dL_law_330 : decode cL_law 330 = .ok (.iload 10, 2) := by decide +kernel
theorem dL_law_332 : decode cL_law 332 = .ok (.iload 9, 2) := by decide +kernel
theorem dL_law_334 : decode cL_law 334 = .ok (.invokevirtual 139, 3) := by decide +kernel
theorem dL_law_337 : decode cL_law 337 = .ok (.if_icmp .ne 62, 3) := by decide +kernel
theorem dL_law_340 : decode cL_law 340 = .ok (.iload 11, 2) := by decide +kernel
theorem dL_law_342 : decode cL_law 342 = .ok (.ifCond .lt 39, 3) := by decide +kernel
theorem dL_law_345 : decode cL_law 345 = .ok (.iload 11, 2) := by decide +kernel
theorem dL_law_347 : decode cL_law 347 = .ok (.iload 9, 2) := by decide +kernel
theorem dL_law_349 : decode cL_law 349 = .ok (.if_icmp .eq 14, 3) := by decide +kernel
theorem dL_law_352 : decode cL_law 352 = .ok (.aload_n 1, 1) := by decide +kernel
theorem dL_law_353 : decode cL_law 353 = .ok (.iload 9, 2) := by decide +kernel
theorem dL_law_355 : decode cL_law 355 = .ok (.iload 11, 2) := by decide +kernel
theorem dL_law_357 : decode cL_law 357 = .ok (.invokevirtual 128, 3) := by decide +kernel
theorem dL_law_360 : decode cL_law 360 = .ok (.ifCond .eq 39, 3) := by decide +kernel
theorem dL_law_363 : decode cL_law 363 = .ok (.iload 11, 2) := by decide +kernel
theorem dL_law_365 : decode cL_law 365 = .ok (.iload 10, 2) := by decide +kernel
theorem dL_law_367 : decode cL_law 367 = .ok (.if_icmp .eq 14, 3) := by decide +kernel
theorem dL_law_370 : decode cL_law 370 = .ok (.aload_n 1, 1) := by decide +kernel
theorem dL_law_371 : decode cL_law 371 = .ok (.iload 10, 2) := by decide +kernel
theorem dL_law_373 : decode cL_law 373 = .ok (.iload 11, 2) := by decide +kernel
theorem dL_law_375 : decode cL_law 375 = .ok (.invokevirtual 128, 3) := by decide +kernel
theorem dL_law_378 : decode cL_law 378 = .ok (.ifCond .eq 21, 3) := by decide +kernel
theorem dL_law_381 : decode cL_law 381 = .ok (.aload_n 1, 1) := by decide +kernel
theorem dL_law_382 : decode cL_law 382 = .ok (.iload 9, 2) := by decide +kernel
theorem dL_law_384 : decode cL_law 384 = .ok (.iload 10, 2) := by decide +kernel
theorem dL_law_386 : decode cL_law 386 = .ok (.invokevirtual 128, 3) := by decide +kernel
theorem dL_law_389 : decode cL_law 389 = .ok (.ifCond .eq 12, 3) := by decide +kernel
theorem dL_law_392 : decode cL_law 392 = .ok (.iload 11, 2) := by decide +kernel
theorem dL_law_394 : decode cL_law 394 = .ok (.iload 10, 2) := by decide +kernel
theorem dL_law_396 : decode cL_law 396 = .ok (.if_icmp .eq 5, 3) := by decide +kernel
theorem dL_law_399 : decode cL_law 399 = .ok (.iconst 0, 1) := by decide +kernel
theorem dL_law_400 : decode cL_law 400 = .ok (.ireturn, 1) := by decide +kernel
theorem dL_law_401 : decode cL_law 401 = .ok (.iinc 9 1, 3) := by decide +kernel
theorem dL_law_404 : decode cL_law 404 = .ok (.goto (-293), 3) := by decide +kernel
theorem dL_law_407 : decode cL_law 407 = .ok (.iload 7, 2) := by decide +kernel
theorem dL_law_409 : decode cL_law 409 = .ok (.iload 8, 2) := by decide +kernel
theorem dL_law_411 : decode cL_law 411 = .ok (.if_icmp .eq 5, 3) := by decide +kernel
theorem dL_law_414 : decode cL_law 414 = .ok (.iconst 0, 1) := by decide +kernel
theorem dL_law_415 : decode cL_law 415 = .ok (.ireturn, 1) := by decide +kernel
theorem dL_law_416 : decode cL_law 416 = .ok (.iconst 0, 1) := by decide +kernel
theorem dL_law_417 : decode cL_law 417 = .ok (.istore 9, 2) := by decide +kernel
theorem dL_law_419 : decode cL_law 419 = .ok (.iconst 0, 1) := by decide +kernel
theorem dL_law_420 : decode cL_law 420 = .ok (.istore 10, 2) := by decide +kernel
theorem dL_law_422 : decode cL_law 422 = .ok (.iconst 0, 1) := by decide +kernel
theorem dL_law_423 : decode cL_law 423 = .ok (.istore 11, 2) := by decide +kernel
theorem dL_law_425 : decode cL_law 425 = .ok (.iload 11, 2) := by decide +kernel
theorem dL_law_427 : decode cL_law 427 = .ok (.iload 6, 2) := by decide +kernel
theorem dL_law_429 : decode cL_law 429 = .ok (.if_icmp .ge 256, 3) := by decide +kernel
theorem dL_law_432 : decode cL_law 432 = .ok (.iconst 0, 1) := by decide +kernel
theorem dL_law_433 : decode cL_law 433 = .ok (.istore 12, 2) := by decide +kernel
theorem dL_law_435 : decode cL_law 435 = .ok (.iconst 0, 1) := by decide +kernel
theorem dL_law_436 : decode cL_law 436 = .ok (.istore 13, 2) := by decide +kernel
theorem dL_law_438 : decode cL_law 438 = .ok (.iconst 0, 1) := by decide +kernel
theorem dL_law_439 : decode cL_law 439 = .ok (.istore 14, 2) := by decide +kernel
theorem dL_law_441 : decode cL_law 441 = .ok (.iload 14, 2) := by decide +kernel
theorem dL_law_443 : decode cL_law 443 = .ok (.iload 5, 2) := by decide +kernel
theorem dL_law_445 : decode cL_law 445 = .ok (.if_icmp .ge 114, 3) := by decide +kernel
theorem dL_law_448 : decode cL_law 448 = .ok (.aload_n 1, 1) := by decide +kernel
theorem dL_law_449 : decode cL_law 449 = .ok (.iload 11, 2) := by decide +kernel
theorem dL_law_451 : decode cL_law 451 = .ok (.iload 14, 2) := by decide +kernel
theorem dL_law_453 : decode cL_law 453 = .ok (.invokevirtual 142, 3) := by decide +kernel
theorem dL_law_456 : decode cL_law 456 = .ok (.istore 15, 2) := by decide +kernel
theorem dL_law_458 : decode cL_law 458 = .ok (.iload 13, 2) := by decide +kernel
theorem dL_law_460 : decode cL_law 460 = .ok (.iload 15, 2) := by decide +kernel
theorem dL_law_462 : decode cL_law 462 = .ok (.ifCond .eq 7, 3) := by decide +kernel
theorem dL_law_465 : decode cL_law 465 = .ok (.iconst 1, 1) := by decide +kernel
theorem dL_law_466 : decode cL_law 466 = .ok (.goto 4, 3) := by decide +kernel
theorem dL_law_469 : decode cL_law 469 = .ok (.iconst 0, 1) := by decide +kernel
theorem dL_law_470 : decode cL_law 470 = .ok (.iadd, 1) := by decide +kernel
theorem dL_law_471 : decode cL_law 471 = .ok (.istore 13, 2) := by decide +kernel
theorem dL_law_473 : decode cL_law 473 = .ok (.iconst 0, 1) := by decide +kernel
theorem dL_law_474 : decode cL_law 474 = .ok (.istore 16, 2) := by decide +kernel
theorem dL_law_476 : decode cL_law 476 = .ok (.iload 16, 2) := by decide +kernel
theorem dL_law_478 : decode cL_law 478 = .ok (.iload 5, 2) := by decide +kernel
theorem dL_law_480 : decode cL_law 480 = .ok (.if_icmp .ge 43, 3) := by decide +kernel
theorem dL_law_483 : decode cL_law 483 = .ok (.iload 15, 2) := by decide +kernel
theorem dL_law_485 : decode cL_law 485 = .ok (.ifCond .ne 25, 3) := by decide +kernel
theorem dL_law_488 : decode cL_law 488 = .ok (.aload_n 1, 1) := by decide +kernel
theorem dL_law_489 : decode cL_law 489 = .ok (.iload 11, 2) := by decide +kernel
theorem dL_law_491 : decode cL_law 491 = .ok (.iload 16, 2) := by decide +kernel
theorem dL_law_493 : decode cL_law 493 = .ok (.invokevirtual 142, 3) := by decide +kernel
theorem dL_law_496 : decode cL_law 496 = .ok (.ifCond .eq 18, 3) := by decide +kernel
theorem dL_law_499 : decode cL_law 499 = .ok (.aload_n 1, 1) := by decide +kernel
theorem dL_law_500 : decode cL_law 500 = .ok (.iload 16, 2) := by decide +kernel
theorem dL_law_502 : decode cL_law 502 = .ok (.iload 14, 2) := by decide +kernel
theorem dL_law_504 : decode cL_law 504 = .ok (.invokevirtual 128, 3) := by decide +kernel
theorem dL_law_507 : decode cL_law 507 = .ok (.ifCond .eq 7, 3) := by decide +kernel
theorem dL_law_510 : decode cL_law 510 = .ok (.iconst 1, 1) := by decide +kernel
theorem dL_law_511 : decode cL_law 511 = .ok (.goto 4, 3) := by decide +kernel
theorem dL_law_514 : decode cL_law 514 = .ok (.iconst 0, 1) := by decide +kernel
theorem dL_law_515 : decode cL_law 515 = .ok (.istore 15, 2) := by decide +kernel
theorem dL_law_517 : decode cL_law 517 = .ok (.iinc 16 1, 3) := by decide +kernel
theorem dL_law_520 : decode cL_law 520 = .ok (.goto (-44), 3) := by decide +kernel
theorem dL_law_523 : decode cL_law 523 = .ok (.aload_n 1, 1) := by decide +kernel
theorem dL_law_524 : decode cL_law 524 = .ok (.iload 11, 2) := by decide +kernel
theorem dL_law_526 : decode cL_law 526 = .ok (.iload 14, 2) := by decide +kernel
theorem dL_law_528 : decode cL_law 528 = .ok (.invokevirtual 145, 3) := by decide +kernel
theorem dL_law_531 : decode cL_law 531 = .ok (.iload 15, 2) := by decide +kernel
theorem dL_law_533 : decode cL_law 533 = .ok (.if_icmp .eq 5, 3) := by decide +kernel
theorem dL_law_536 : decode cL_law 536 = .ok (.iconst 0, 1) := by decide +kernel
theorem dL_law_537 : decode cL_law 537 = .ok (.ireturn, 1) := by decide +kernel
theorem dL_law_538 : decode cL_law 538 = .ok (.iload 12, 2) := by decide +kernel
theorem dL_law_540 : decode cL_law 540 = .ok (.iload 15, 2) := by decide +kernel
theorem dL_law_542 : decode cL_law 542 = .ok (.ifCond .eq 7, 3) := by decide +kernel
theorem dL_law_545 : decode cL_law 545 = .ok (.iconst 1, 1) := by decide +kernel
theorem dL_law_546 : decode cL_law 546 = .ok (.goto 4, 3) := by decide +kernel
theorem dL_law_549 : decode cL_law 549 = .ok (.iconst 0, 1) := by decide +kernel
theorem dL_law_550 : decode cL_law 550 = .ok (.iadd, 1) := by decide +kernel
theorem dL_law_551 : decode cL_law 551 = .ok (.istore 12, 2) := by decide +kernel
theorem dL_law_553 : decode cL_law 553 = .ok (.iinc 14 1, 3) := by decide +kernel
theorem dL_law_556 : decode cL_law 556 = .ok (.goto (-115), 3) := by decide +kernel
theorem dL_law_559 : decode cL_law 559 = .ok (.iload 13, 2) := by decide +kernel
theorem dL_law_561 : decode cL_law 561 = .ok (.iconst 1, 1) := by decide +kernel
theorem dL_law_562 : decode cL_law 562 = .ok (.if_icmp .lt 85, 3) := by decide +kernel
theorem dL_law_565 : decode cL_law 565 = .ok (.iload 12, 2) := by decide +kernel
theorem dL_law_567 : decode cL_law 567 = .ok (.iload 13, 2) := by decide +kernel
theorem dL_law_569 : decode cL_law 569 = .ok (.if_icmp .lt 78, 3) := by decide +kernel
theorem dL_law_572 : decode cL_law 572 = .ok (.aload_n 1, 1) := by decide +kernel
theorem dL_law_573 : decode cL_law 573 = .ok (.iload 11, 2) := by decide +kernel
theorem dL_law_575 : decode cL_law 575 = .ok (.invokevirtual 148, 3) := by decide +kernel
theorem dL_law_578 : decode cL_law 578 = .ok (.iload 12, 2) := by decide +kernel
theorem dL_law_580 : decode cL_law 580 = .ok (.if_icmp .ne 67, 3) := by decide +kernel
theorem dL_law_583 : decode cL_law 583 = .ok (.aload_n 1, 1) := by decide +kernel
theorem dL_law_584 : decode cL_law 584 = .ok (.iload 11, 2) := by decide +kernel
theorem dL_law_586 : decode cL_law 586 = .ok (.invokevirtual 151, 3) := by decide +kernel
theorem dL_law_589 : decode cL_law 589 = .ok (.ifCond .lt 58, 3) := by decide +kernel
theorem dL_law_592 : decode cL_law 592 = .ok (.aload_n 1, 1) := by decide +kernel
theorem dL_law_593 : decode cL_law 593 = .ok (.iload 11, 2) := by decide +kernel
theorem dL_law_595 : decode cL_law 595 = .ok (.invokevirtual 151, 3) := by decide +kernel
theorem dL_law_598 : decode cL_law 598 = .ok (.bipush 9, 2) := by decide +kernel
theorem dL_law_600 : decode cL_law 600 = .ok (.if_icmp .gt 47, 3) := by decide +kernel
theorem dL_law_603 : decode cL_law 603 = .ok (.aload_n 1, 1) := by decide +kernel
theorem dL_law_604 : decode cL_law 604 = .ok (.iload 11, 2) := by decide +kernel
theorem dL_law_606 : decode cL_law 606 = .ok (.invokevirtual 154, 3) := by decide +kernel
theorem dL_law_609 : decode cL_law 609 = .ok (.ifCond .lt 38, 3) := by decide +kernel
theorem dL_law_612 : decode cL_law 612 = .ok (.aload_n 1, 1) := by decide +kernel
theorem dL_law_613 : decode cL_law 613 = .ok (.iload 11, 2) := by decide +kernel
theorem dL_law_615 : decode cL_law 615 = .ok (.invokevirtual 154, 3) := by decide +kernel
theorem dL_law_618 : decode cL_law 618 = .ok (.aload_n 1, 1) := by decide +kernel
theorem dL_law_619 : decode cL_law 619 = .ok (.invokevirtual 157, 3) := by decide +kernel
theorem dL_law_622 : decode cL_law 622 = .ok (.if_icmp .gt 25, 3) := by decide +kernel
theorem dL_law_625 : decode cL_law 625 = .ok (.iload 11, 2) := by decide +kernel
theorem dL_law_627 : decode cL_law 627 = .ok (.ifCond .le 22, 3) := by decide +kernel
theorem dL_law_630 : decode cL_law 630 = .ok (.aload_n 1, 1) := by decide +kernel
theorem dL_law_631 : decode cL_law 631 = .ok (.iload 11, 2) := by decide +kernel
theorem dL_law_633 : decode cL_law 633 = .ok (.invokevirtual 154, 3) := by decide +kernel
theorem dL_law_636 : decode cL_law 636 = .ok (.aload_n 1, 1) := by decide +kernel
theorem dL_law_637 : decode cL_law 637 = .ok (.iload 11, 2) := by decide +kernel
theorem dL_law_639 : decode cL_law 639 = .ok (.iconst 1, 1) := by decide +kernel
theorem dL_law_640 : decode cL_law 640 = .ok (.isub, 1) := by decide +kernel
theorem dL_law_641 : decode cL_law 641 = .ok (.invokevirtual 154, 3) := by decide +kernel
theorem dL_law_644 : decode cL_law 644 = .ok (.if_icmp .ge 5, 3) := by decide +kernel
theorem dL_law_647 : decode cL_law 647 = .ok (.iconst 0, 1) := by decide +kernel
theorem dL_law_648 : decode cL_law 648 = .ok (.ireturn, 1) := by decide +kernel
theorem dL_law_649 : decode cL_law 649 = .ok (.iload 9, 2) := by decide +kernel
theorem dL_law_651 : decode cL_law 651 = .ok (.aload_n 1, 1) := by decide +kernel
theorem dL_law_652 : decode cL_law 652 = .ok (.iload 11, 2) := by decide +kernel
theorem dL_law_654 : decode cL_law 654 = .ok (.invokevirtual 151, 3) := by decide +kernel
theorem dL_law_657 : decode cL_law 657 = .ok (.ifCond .ne 7, 3) := by decide +kernel
theorem dL_law_660 : decode cL_law 660 = .ok (.iconst 1, 1) := by decide +kernel
theorem dL_law_661 : decode cL_law 661 = .ok (.goto 4, 3) := by decide +kernel
theorem dL_law_664 : decode cL_law 664 = .ok (.iconst 0, 1) := by decide +kernel
theorem dL_law_665 : decode cL_law 665 = .ok (.iadd, 1) := by decide +kernel
theorem dL_law_666 : decode cL_law 666 = .ok (.istore 9, 2) := by decide +kernel
theorem dL_law_668 : decode cL_law 668 = .ok (.iload 10, 2) := by decide +kernel
theorem dL_law_670 : decode cL_law 670 = .ok (.aload_n 1, 1) := by decide +kernel
theorem dL_law_671 : decode cL_law 671 = .ok (.iload 11, 2) := by decide +kernel
theorem dL_law_673 : decode cL_law 673 = .ok (.invokevirtual 151, 3) := by decide +kernel
theorem dL_law_676 : decode cL_law 676 = .ok (.iadd, 1) := by decide +kernel
theorem dL_law_677 : decode cL_law 677 = .ok (.istore 10, 2) := by decide +kernel
theorem dL_law_679 : decode cL_law 679 = .ok (.iinc 11 1, 3) := by decide +kernel
theorem dL_law_682 : decode cL_law 682 = .ok (.goto (-257), 3) := by decide +kernel
theorem dL_law_685 : decode cL_law 685 = .ok (.iload 9, 2) := by decide +kernel
theorem dL_law_687 : decode cL_law 687 = .ok (.aload_n 1, 1) := by decide +kernel
theorem dL_law_688 : decode cL_law 688 = .ok (.invokevirtual 159, 3) := by decide +kernel
theorem dL_law_691 : decode cL_law 691 = .ok (.if_icmp .ne 27, 3) := by decide +kernel
theorem dL_law_694 : decode cL_law 694 = .ok (.aload_n 1, 1) := by decide +kernel
theorem dL_law_695 : decode cL_law 695 = .ok (.invokevirtual 162, 3) := by decide +kernel
theorem dL_law_698 : decode cL_law 698 = .ok (.iload 6, 2) := by decide +kernel
theorem dL_law_700 : decode cL_law 700 = .ok (.ifCond .ne 7, 3) := by decide +kernel
theorem dL_law_703 : decode cL_law 703 = .ok (.dconst 0, 1) := by decide +kernel
theorem dL_law_704 : decode cL_law 704 = .ok (.goto 10, 3) := by decide +kernel
theorem dL_law_707 : decode cL_law 707 = .ok (.iload 10, 2) := by decide +kernel
theorem dL_law_709 : decode cL_law 709 = .ok (.i2d, 1) := by decide +kernel
theorem dL_law_710 : decode cL_law 710 = .ok (.iload 6, 2) := by decide +kernel
theorem dL_law_712 : decode cL_law 712 = .ok (.i2d, 1) := by decide +kernel
theorem dL_law_713 : decode cL_law 713 = .ok (.ddiv, 1) := by decide +kernel
theorem dL_law_714 : decode cL_law 714 = .ok (.dcmp .l, 1) := by decide +kernel
theorem dL_law_715 : decode cL_law 715 = .ok (.ifCond .eq 5, 3) := by decide +kernel
theorem dL_law_718 : decode cL_law 718 = .ok (.iconst 0, 1) := by decide +kernel
theorem dL_law_719 : decode cL_law 719 = .ok (.ireturn, 1) := by decide +kernel
theorem dL_law_720 : decode cL_law 720 = .ok (.iconst 0, 1) := by decide +kernel
theorem dL_law_721 : decode cL_law 721 = .ok (.istore 11, 2) := by decide +kernel
theorem dL_law_723 : decode cL_law 723 = .ok (.iload 11, 2) := by decide +kernel
theorem dL_law_725 : decode cL_law 725 = .ok (.aload_n 1, 1) := by decide +kernel
theorem dL_law_726 : decode cL_law 726 = .ok (.invokevirtual 166, 3) := by decide +kernel
theorem dL_law_729 : decode cL_law 729 = .ok (.if_icmp .ge 146, 3) := by decide +kernel
theorem dL_law_732 : decode cL_law 732 = .ok (.iconst 0, 1) := by decide +kernel
theorem dL_law_733 : decode cL_law 733 = .ok (.istore 12, 2) := by decide +kernel
theorem dL_law_735 : decode cL_law 735 = .ok (.aload_n 1, 1) := by decide +kernel
theorem dL_law_736 : decode cL_law 736 = .ok (.iload 11, 2) := by decide +kernel
theorem dL_law_738 : decode cL_law 738 = .ok (.invokevirtual 168, 3) := by decide +kernel
theorem dL_law_741 : decode cL_law 741 = .ok (.istore 13, 2) := by decide +kernel
theorem dL_law_743 : decode cL_law 743 = .ok (.iconst 0, 1) := by decide +kernel
theorem dL_law_744 : decode cL_law 744 = .ok (.istore 14, 2) := by decide +kernel
theorem dL_law_746 : decode cL_law 746 = .ok (.iload 14, 2) := by decide +kernel
theorem dL_law_748 : decode cL_law 748 = .ok (.iload 6, 2) := by decide +kernel
theorem dL_law_750 : decode cL_law 750 = .ok (.if_icmp .ge 39, 3) := by decide +kernel
theorem dL_law_753 : decode cL_law 753 = .ok (.aload_n 1, 1) := by decide +kernel
theorem dL_law_754 : decode cL_law 754 = .ok (.iload 11, 2) := by decide +kernel
theorem dL_law_756 : decode cL_law 756 = .ok (.iload 14, 2) := by decide +kernel
theorem dL_law_758 : decode cL_law 758 = .ok (.invokevirtual 171, 3) := by decide +kernel
theorem dL_law_761 : decode cL_law 761 = .ok (.ifCond .ne 6, 3) := by decide +kernel
theorem dL_law_764 : decode cL_law 764 = .ok (.goto 19, 3) := by decide +kernel
theorem dL_law_767 : decode cL_law 767 = .ok (.iinc 12 1, 3) := by decide +kernel
theorem dL_law_770 : decode cL_law 770 = .ok (.iload 13, 2) := by decide +kernel
theorem dL_law_772 : decode cL_law 772 = .ok (.aload_n 1, 1) := by decide +kernel
theorem dL_law_773 : decode cL_law 773 = .ok (.iload 14, 2) := by decide +kernel
theorem dL_law_775 : decode cL_law 775 = .ok (.invokevirtual 148, 3) := by decide +kernel
theorem dL_law_778 : decode cL_law 778 = .ok (.if_icmp .le 5, 3) := by decide +kernel
theorem dL_law_781 : decode cL_law 781 = .ok (.iconst 0, 1) := by decide +kernel
theorem dL_law_782 : decode cL_law 782 = .ok (.ireturn, 1) := by decide +kernel
theorem dL_law_783 : decode cL_law 783 = .ok (.iinc 14 1, 3) := by decide +kernel
theorem dL_law_786 : decode cL_law 786 = .ok (.goto (-40), 3) := by decide +kernel
theorem dL_law_789 : decode cL_law 789 = .ok (.aload_n 1, 1) := by decide +kernel
theorem dL_law_790 : decode cL_law 790 = .ok (.iload 11, 2) := by decide +kernel
theorem dL_law_792 : decode cL_law 792 = .ok (.invokevirtual 174, 3) := by decide +kernel
theorem dL_law_795 : decode cL_law 795 = .ok (.istore 14, 2) := by decide +kernel
theorem dL_law_797 : decode cL_law 797 = .ok (.iload 12, 2) := by decide +kernel
theorem dL_law_799 : decode cL_law 799 = .ok (.aload_n 1, 1) := by decide +kernel
theorem dL_law_800 : decode cL_law 800 = .ok (.iload 11, 2) := by decide +kernel
theorem dL_law_802 : decode cL_law 802 = .ok (.invokevirtual 177, 3) := by decide +kernel
theorem dL_law_805 : decode cL_law 805 = .ok (.if_icmp .ne 62, 3) := by decide +kernel
theorem dL_law_808 : decode cL_law 808 = .ok (.iload 14, 2) := by decide +kernel
theorem dL_law_810 : decode cL_law 810 = .ok (.iload 12, 2) := by decide +kernel
theorem dL_law_812 : decode cL_law 812 = .ok (.if_icmp .gt 55, 3) := by decide +kernel
theorem dL_law_815 : decode cL_law 815 = .ok (.iload 14, 2) := by decide +kernel
theorem dL_law_817 : decode cL_law 817 = .ok (.ifCond .ne 7, 3) := by decide +kernel
theorem dL_law_820 : decode cL_law 820 = .ok (.iconst 1, 1) := by decide +kernel
theorem dL_law_821 : decode cL_law 821 = .ok (.goto 4, 3) := by decide +kernel
theorem dL_law_824 : decode cL_law 824 = .ok (.iconst 0, 1) := by decide +kernel
theorem dL_law_825 : decode cL_law 825 = .ok (.iload 12, 2) := by decide +kernel
theorem dL_law_827 : decode cL_law 827 = .ok (.ifCond .ne 7, 3) := by decide +kernel
theorem dL_law_830 : decode cL_law 830 = .ok (.iconst 1, 1) := by decide +kernel
theorem dL_law_831 : decode cL_law 831 = .ok (.goto 4, 3) := by decide +kernel
theorem dL_law_834 : decode cL_law 834 = .ok (.iconst 0, 1) := by decide +kernel
theorem dL_law_835 : decode cL_law 835 = .ok (.if_icmp .ne 32, 3) := by decide +kernel
theorem dL_law_838 : decode cL_law 838 = .ok (.iload 13, 2) := by decide +kernel
theorem dL_law_840 : decode cL_law 840 = .ok (.ifCond .le 9, 3) := by decide +kernel
theorem dL_law_843 : decode cL_law 843 = .ok (.iload 14, 2) := by decide +kernel
theorem dL_law_845 : decode cL_law 845 = .ok (.iconst 1, 1) := by decide +kernel
theorem dL_law_846 : decode cL_law 846 = .ok (.if_icmp .gt 21, 3) := by decide +kernel
theorem dL_law_849 : decode cL_law 849 = .ok (.iload 14, 2) := by decide +kernel
theorem dL_law_851 : decode cL_law 851 = .ok (.iload 5, 2) := by decide +kernel
theorem dL_law_853 : decode cL_law 853 = .ok (.if_icmp .gt 14, 3) := by decide +kernel
theorem dL_law_856 : decode cL_law 856 = .ok (.aload_n 1, 1) := by decide +kernel
theorem dL_law_857 : decode cL_law 857 = .ok (.iload 11, 2) := by decide +kernel
theorem dL_law_859 : decode cL_law 859 = .ok (.iload 11, 2) := by decide +kernel
theorem dL_law_861 : decode cL_law 861 = .ok (.invokevirtual 180, 3) := by decide +kernel
theorem dL_law_864 : decode cL_law 864 = .ok (.ifCond .ne 5, 3) := by decide +kernel
theorem dL_law_867 : decode cL_law 867 = .ok (.iconst 0, 1) := by decide +kernel
theorem dL_law_868 : decode cL_law 868 = .ok (.ireturn, 1) := by decide +kernel
theorem dL_law_869 : decode cL_law 869 = .ok (.iinc 11 1, 3) := by decide +kernel
theorem dL_law_872 : decode cL_law 872 = .ok (.goto (-149), 3) := by decide +kernel
theorem dL_law_875 : decode cL_law 875 = .ok (.iinc 3 1, 3) := by decide +kernel
theorem dL_law_878 : decode cL_law 878 = .ok (.goto (-856), 3) := by decide +kernel
theorem dL_law_881 : decode cL_law 881 = .ok (.aload_n 2, 1) := by decide +kernel
theorem dL_law_882 : decode cL_law 882 = .ok (.aload_n 1, 1) := by decide +kernel
theorem dL_law_883 : decode cL_law 883 = .ok (.invokevirtual 183, 3) := by decide +kernel
theorem dL_law_886 : decode cL_law 886 = .ok (.ireturn, 1) := by decide +kernel
end
section
/-- the words that stand under every warming, of all the tables -/
def XALL : List Cond := lw_tbl.filter goodWord
def nwOK : Cond → Bool
  | .fieldLinkNest .. => true
  | .methodLinkNest .. => true
  | .castable .. => true
  | .declares _ => true
  | _ => false
def NW : List Cond := lw_tbl.filter nwOK
theorem xall {w : Cond} (i : Nat) (h : tables_1[i]? = some w) (g : goodWord w = true) : w ∈ XALL := List.mem_filter.mpr ⟨List.mem_append_right _ (List.mem_of_getElem? h), g⟩
theorem nwall {w : Cond} (i : Nat) (h : tables_1[i]? = some w) (g : nwOK w = true) : w ∈ NW := List.mem_filter.mpr ⟨List.mem_append_right _ (List.mem_of_getElem? h), g⟩
theorem xsel {w : Cond} (i : Nat) (h : (k2_sels lw_privs)[i]? = some w) (g : goodWord w = true) : w ∈ XALL := List.mem_filter.mpr ⟨List.mem_append_left _ (List.mem_of_getElem? h), g⟩
theorem XALL_tbl {w : Cond} (h : w ∈ XALL) : w ∈ lw_tbl := (List.mem_filter.mp h).1
theorem NW_tbl {w : Cond} (h : w ∈ NW) : w ∈ lw_tbl := (List.mem_filter.mp h).1
theorem XALL_good {w : Cond} (h : w ∈ XALL) : goodWord w = true := (List.mem_filter.mp h).2
theorem XALL_in {w : Cond} (h : w ∈ XALL) : GoodIn XALL (w :: XALL) := fun v hv => by
  rcases List.mem_cons.mp hv with rfl | hv
  · exact ⟨h, good_of_word (XALL_good h)⟩
  · exact ⟨hv, good_of_word (XALL_good hv)⟩
theorem kz_L : Cond.initialized RL ∈ XALL := xall 0 (by decide +kernel) (by decide +kernel)
theorem kz_X3 : Cond.initialized RX3 ∈ XALL := xall 1 (by decide +kernel) (by decide +kernel)
theorem kz_X1 : Cond.initialized RX1 ∈ XALL := xall 2 (by decide +kernel) (by decide +kernel)
theorem kz_X2 : Cond.initialized RX2 ∈ XALL := xall 3 (by decide +kernel) (by decide +kernel)
theorem kz_X0 : Cond.initialized RX0 ∈ XALL := xall 4 (by decide +kernel) (by decide +kernel)
theorem kz_X4 : Cond.initialized RX4 ∈ XALL := xall 5 (by decide +kernel) (by decide +kernel)
theorem kz_Throwable : Cond.initialized "java/lang/Throwable" ∈ XALL := xall 6 (by decide +kernel) (by decide +kernel)
theorem kz_Exception : Cond.initialized "java/lang/Exception" ∈ XALL := xall 7 (by decide +kernel) (by decide +kernel)
theorem kz_RuntimeException : Cond.initialized "java/lang/RuntimeException" ∈ XALL := xall 8 (by decide +kernel) (by decide +kernel)
theorem kz_IllegalStateException : Cond.initialized "java/lang/IllegalStateException" ∈ XALL := xall 9 (by decide +kernel) (by decide +kernel)
theorem kz_IndexOutOfBoundsException : Cond.initialized "java/lang/IndexOutOfBoundsException" ∈ XALL := xall 10 (by decide +kernel) (by decide +kernel)
theorem kz_IllegalArgumentException : Cond.initialized "java/lang/IllegalArgumentException" ∈ XALL := xall 11 (by decide +kernel) (by decide +kernel)
theorem kz_J6 : Cond.initialized RJ6 ∈ XALL := xall 12 (by decide +kernel) (by decide +kernel)
theorem kz_J9 : Cond.initialized RJ9 ∈ XALL := xall 13 (by decide +kernel) (by decide +kernel)
theorem kl_L_26 : Cond.classLink RL 26 "DreamLedger" ∈ XALL := xall 14 (by decide +kernel) (by decide +kernel)
theorem kq_X3 : Cond.instantiable RX3 9 ∈ XALL := xall 15 (by decide +kernel) (by decide +kernel)
theorem km_L_113 : Cond.methodLink RL 113 yX3_init ∈ XALL := xall 16 (by decide +kernel) (by decide +kernel)
theorem ki_yX3_init : Cond.instanceMethod yX3_init ∈ XALL := xall 17 (by decide +kernel) (by decide +kernel)
theorem kc_yX3_init : Cond.code yX3_init cX3_init 1 none ∈ XALL := xall 18 (by decide +kernel) (by decide +kernel)
theorem km_X3_1 : Cond.methodLink RX3 1 objectInit ∈ XALL := xall 19 (by decide +kernel) (by decide +kernel)
theorem ki_objectInit : Cond.instanceMethod objectInit ∈ XALL := xall 20 (by decide +kernel) (by decide +kernel)
theorem kc_objectInit : Cond.code objectInit ⟨#[0xb1]⟩ 1 none ∈ XALL := xall 21 (by decide +kernel) (by decide +kernel)
theorem kl_X3_7 : Cond.classLink RX3 7 "DreamLedger$TagTree" ∈ XALL := xall 22 (by decide +kernel) (by decide +kernel)
theorem kq_X1 : Cond.instantiable RX1 3 ∈ XALL := xall 23 (by decide +kernel) (by decide +kernel)
theorem kmN_X3_9 : Cond.methodLinkNest RX3 9 yX1_init RX3 ∈ NW := nwall 24 (by decide +kernel) rfl
theorem ki_yX1_init : Cond.instanceMethod yX1_init ∈ XALL := xall 25 (by decide +kernel) (by decide +kernel)
theorem kc_yX1_init : Cond.code yX1_init cX1_init 1 none ∈ XALL := xall 26 (by decide +kernel) (by decide +kernel)
theorem km_X1_3 : Cond.methodLink RX1 3 objectInit ∈ XALL := xall 27 (by decide +kernel) (by decide +kernel)
theorem kf_X1_9 : Cond.fieldLink RX1 9 "DreamLedger$TagTree" "parents" "[I" ∈ XALL := xall 28 (by decide +kernel) (by decide +kernel)
theorem kfN_X3_73 : Cond.fieldLinkNest RX3 73 "DreamLedger$TagTree" "parents" "[I" RX3 ∈ NW := nwall 29 (by decide +kernel) rfl
theorem kf_X1_15 : Cond.fieldLink RX1 15 "DreamLedger$TagTree" "lines" "[I" ∈ XALL := xall 30 (by decide +kernel) (by decide +kernel)
theorem kfN_X3_142 : Cond.fieldLinkNest RX3 142 "DreamLedger$TagTree" "lines" "[I" RX3 ∈ NW := nwall 31 (by decide +kernel) rfl
theorem kf_X1_18 : Cond.fieldLink RX1 18 "DreamLedger$TagTree" "count" "I" ∈ XALL := xall 32 (by decide +kernel) (by decide +kernel)
theorem kfN_X3_43 : Cond.fieldLinkNest RX3 43 "DreamLedger$TagTree" "count" "I" RX3 ∈ NW := nwall 33 (by decide +kernel) rfl
theorem ka_int : Cond.arrayClass .int ∈ XALL := xall 41 (by decide +kernel) (by decide +kernel)
theorem kl_X3_16 : Cond.classLink RX3 16 "DreamLedger$TermList" ∈ XALL := xall 42 (by decide +kernel) (by decide +kernel)
theorem kq_X2 : Cond.instantiable RX2 5 ∈ XALL := xall 43 (by decide +kernel) (by decide +kernel)
theorem kmN_X3_18 : Cond.methodLinkNest RX3 18 yX2_init RX3 ∈ NW := nwall 44 (by decide +kernel) rfl
theorem ki_yX2_init : Cond.instanceMethod yX2_init ∈ XALL := xall 45 (by decide +kernel) (by decide +kernel)
theorem kc_yX2_init : Cond.code yX2_init cX2_init 1 none ∈ XALL := xall 46 (by decide +kernel) (by decide +kernel)
theorem km_X2_3 : Cond.methodLink RX2 3 objectInit ∈ XALL := xall 47 (by decide +kernel) (by decide +kernel)
theorem kf_X2_9 : Cond.fieldLink RX2 9 "DreamLedger$TermList" "kinds" "[I" ∈ XALL := xall 48 (by decide +kernel) (by decide +kernel)
theorem kfN_X3_221 : Cond.fieldLinkNest RX3 221 "DreamLedger$TermList" "kinds" "[I" RX3 ∈ NW := nwall 49 (by decide +kernel) rfl
theorem kf_X2_15 : Cond.fieldLink RX2 15 "DreamLedger$TermList" "firsts" "[I" ∈ XALL := xall 50 (by decide +kernel) (by decide +kernel)
theorem kfN_X3_224 : Cond.fieldLinkNest RX3 224 "DreamLedger$TermList" "firsts" "[I" RX3 ∈ NW := nwall 51 (by decide +kernel) rfl
theorem kf_X2_18 : Cond.fieldLink RX2 18 "DreamLedger$TermList" "seconds" "[I" ∈ XALL := xall 52 (by decide +kernel) (by decide +kernel)
theorem kf_X2_21 : Cond.fieldLink RX2 21 "DreamLedger$TermList" "matched" "[I" ∈ XALL := xall 53 (by decide +kernel) (by decide +kernel)
theorem kfN_X3_151 : Cond.fieldLinkNest RX3 151 "DreamLedger$TermList" "matched" "[I" RX3 ∈ NW := nwall 54 (by decide +kernel) rfl
theorem kf_X2_24 : Cond.fieldLink RX2 24 "DreamLedger$TermList" "count" "I" ∈ XALL := xall 55 (by decide +kernel) (by decide +kernel)
theorem kfN_X3_135 : Cond.fieldLinkNest RX3 135 "DreamLedger$TermList" "count" "I" RX3 ∈ NW := nwall 56 (by decide +kernel) rfl
theorem kl_X3_23 : Cond.classLink RX3 23 "DreamLedger$CoverSearch" ∈ XALL := xall 68 (by decide +kernel) (by decide +kernel)
theorem kq_X0 : Cond.instantiable RX0 2 ∈ XALL := xall 69 (by decide +kernel) (by decide +kernel)
theorem kmN_X3_25 : Cond.methodLinkNest RX3 25 yX0_init RX3 ∈ NW := nwall 70 (by decide +kernel) rfl
theorem ki_yX0_init : Cond.instanceMethod yX0_init ∈ XALL := xall 71 (by decide +kernel) (by decide +kernel)
theorem kc_yX0_init : Cond.code yX0_init cX0_init 1 none ∈ XALL := xall 72 (by decide +kernel) (by decide +kernel)
theorem km_X0_3 : Cond.methodLink RX0 3 objectInit ∈ XALL := xall 73 (by decide +kernel) (by decide +kernel)
theorem kf_X0_9 : Cond.fieldLink RX0 9 "DreamLedger$CoverSearch" "dreamsWithTag" "[I" ∈ XALL := xall 74 (by decide +kernel) (by decide +kernel)
theorem kfN_X3_242 : Cond.fieldLinkNest RX3 242 "DreamLedger$CoverSearch" "dreamsWithTag" "[I" RX3 ∈ NW := nwall 75 (by decide +kernel) rfl
theorem kf_X0_15 : Cond.fieldLink RX0 15 "DreamLedger$CoverSearch" "coverable" "[I" ∈ XALL := xall 76 (by decide +kernel) (by decide +kernel)
theorem kf_X3_10 : Cond.fieldLink RX3 10 "DreamLedger" "tagTree" "LDreamLedger$TagTree;" ∈ XALL := xall 82 (by decide +kernel) (by decide +kernel)
theorem kf_X3_19 : Cond.fieldLink RX3 19 "DreamLedger" "termList" "LDreamLedger$TermList;" ∈ XALL := xall 83 (by decide +kernel) (by decide +kernel)
theorem kf_X3_26 : Cond.fieldLink RX3 26 "DreamLedger" "coverSearch" "LDreamLedger$CoverSearch;" ∈ XALL := xall 84 (by decide +kernel) (by decide +kernel)
theorem kf_X3_30 : Cond.fieldLink RX3 30 "DreamLedger" "ownTags" "[I" ∈ XALL := xall 85 (by decide +kernel) (by decide +kernel)
theorem kf_X3_34 : Cond.fieldLink RX3 34 "DreamLedger" "tagSets" "[I" ∈ XALL := xall 86 (by decide +kernel) (by decide +kernel)
theorem kf_X3_37 : Cond.fieldLink RX3 37 "DreamLedger" "vividnesses" "[I" ∈ XALL := xall 87 (by decide +kernel) (by decide +kernel)
theorem kf_X3_40 : Cond.fieldLink RX3 40 "DreamLedger" "writtenIn" "[I" ∈ XALL := xall 88 (by decide +kernel) (by decide +kernel)
theorem kf_X3_84 : Cond.fieldLink RX3 84 "DreamLedger" "dreamCount" "I" ∈ XALL := xall 89 (by decide +kernel) (by decide +kernel)
theorem kf_X3_89 : Cond.fieldLink RX3 89 "DreamLedger" "nightCount" "I" ∈ XALL := xall 90 (by decide +kernel) (by decide +kernel)
theorem km_L_129 : Cond.methodLink RL 129 yX3_hasParent ∈ XALL := xall 110 (by decide +kernel) (by decide +kernel)
theorem ki_yX3_hasParent : Cond.instanceMethod yX3_hasParent ∈ XALL := xall 111 (by decide +kernel) (by decide +kernel)
theorem ks_yX3_hasParent : Cond.selects RX3 yX3_hasParent yX3_hasParent ∈ XALL := xall 112 (by decide +kernel) (by decide +kernel)
theorem kc_yX3_hasParent : Cond.code yX3_hasParent cX3_hasParent 2 (some .boolean) ∈ XALL := xall 113 (by decide +kernel) (by decide +kernel)
theorem km_X3_76 : Cond.methodLink RX3 76 yX3_requireTag ∈ XALL := xall 114 (by decide +kernel) (by decide +kernel)
theorem ki_yX3_requireTag : Cond.instanceMethod yX3_requireTag ∈ XALL := xall 116 (by decide +kernel) (by decide +kernel)
theorem kc_yX3_requireTag : Cond.code yX3_requireTag cX3_requireTag 2 none ∈ XALL := xall 117 (by decide +kernel) (by decide +kernel)
theorem kl_X3_166 : Cond.classLink RX3 166 "java/lang/IndexOutOfBoundsException" ∈ XALL := xall 118 (by decide +kernel) (by decide +kernel)
theorem ka_byte : Cond.arrayClass .byte ∈ XALL := xall 185 (by decide +kernel) (by decide +kernel)
theorem km_L_136 : Cond.methodLink RL 136 yX3_parentOf ∈ XALL := xall 186 (by decide +kernel) (by decide +kernel)
theorem ki_yX3_parentOf : Cond.instanceMethod yX3_parentOf ∈ XALL := xall 187 (by decide +kernel) (by decide +kernel)
theorem ks_yX3_parentOf : Cond.selects RX3 yX3_parentOf yX3_parentOf ∈ XALL := xall 188 (by decide +kernel) (by decide +kernel)
theorem kc_yX3_parentOf : Cond.code yX3_parentOf cX3_parentOf 2 (some .int) ∈ XALL := xall 189 (by decide +kernel) (by decide +kernel)
theorem km_X3_69 : Cond.methodLink RX3 69 yX3_requireParent ∈ XALL := xall 190 (by decide +kernel) (by decide +kernel)
theorem ki_yX3_requireParent : Cond.instanceMethod yX3_requireParent ∈ XALL := xall 192 (by decide +kernel) (by decide +kernel)
theorem kc_yX3_requireParent : Cond.code yX3_requireParent cX3_requireParent 2 none ∈ XALL := xall 193 (by decide +kernel) (by decide +kernel)
theorem kl_X3_47 : Cond.classLink RX3 47 "java/lang/IllegalStateException" ∈ XALL := xall 194 (by decide +kernel) (by decide +kernel)
theorem km_L_122 : Cond.methodLink RL 122 yX3_tagsAbove ∈ XALL := xall 210 (by decide +kernel) (by decide +kernel)
theorem ki_yX3_tagsAbove : Cond.instanceMethod yX3_tagsAbove ∈ XALL := xall 211 (by decide +kernel) (by decide +kernel)
theorem ks_yX3_tagsAbove : Cond.selects RX3 yX3_tagsAbove yX3_tagsAbove ∈ XALL := xall 212 (by decide +kernel) (by decide +kernel)
theorem kc_yX3_tagsAbove : Cond.code yX3_tagsAbove cX3_tagsAbove 2 (some .int) ∈ XALL := xall 213 (by decide +kernel) (by decide +kernel)
theorem kmN_X3_65 : Cond.methodLinkNest RX3 65 yX1_countAbove RX3 ∈ NW := nwall 214 (by decide +kernel) rfl
theorem ki_yX1_countAbove : Cond.instanceMethod yX1_countAbove ∈ XALL := xall 216 (by decide +kernel) (by decide +kernel)
theorem kc_yX1_countAbove : Cond.code yX1_countAbove cX1_countAbove 2 (some .int) ∈ XALL := xall 217 (by decide +kernel) (by decide +kernel)
theorem km_X1_37 : Cond.methodLink RX1 37 yJ6_bitCount_0f7a4 ∈ XALL := xall 218 (by decide +kernel) (by decide +kernel)
theorem kt_yJ6_bitCount_0f7a4 : Cond.static yJ6_bitCount_0f7a4 ∈ XALL := xall 219 (by decide +kernel) (by decide +kernel)
theorem kc_yJ6_bitCount_0f7a4 : Cond.code yJ6_bitCount_0f7a4 cJ6_bitCount_0f7a4 1 (some .int) ∈ XALL := xall 220 (by decide +kernel) (by decide +kernel)
theorem kk_J6_265 : Cond.constant RJ6 265 (1431655765) ∈ XALL := xall 221 (by decide +kernel) (by decide +kernel)
theorem kk_J6_266 : Cond.constant RJ6 266 (858993459) ∈ XALL := xall 222 (by decide +kernel) (by decide +kernel)
theorem kk_J6_267 : Cond.constant RJ6 267 (252645135) ∈ XALL := xall 223 (by decide +kernel) (by decide +kernel)
theorem km_L_125 : Cond.methodLink RL 125 yX3_tagsBelow ∈ XALL := xall 224 (by decide +kernel) (by decide +kernel)
theorem ki_yX3_tagsBelow : Cond.instanceMethod yX3_tagsBelow ∈ XALL := xall 225 (by decide +kernel) (by decide +kernel)
theorem ks_yX3_tagsBelow : Cond.selects RX3 yX3_tagsBelow yX3_tagsBelow ∈ XALL := xall 226 (by decide +kernel) (by decide +kernel)
theorem kc_yX3_tagsBelow : Cond.code yX3_tagsBelow cX3_tagsBelow 2 (some .int) ∈ XALL := xall 227 (by decide +kernel) (by decide +kernel)
theorem kmN_X3_136 : Cond.methodLinkNest RX3 136 yX1_countBelow RX3 ∈ NW := nwall 228 (by decide +kernel) rfl
theorem ki_yX1_countBelow : Cond.instanceMethod yX1_countBelow ∈ XALL := xall 230 (by decide +kernel) (by decide +kernel)
theorem kc_yX1_countBelow : Cond.code yX1_countBelow cX1_countBelow 4 (some .int) ∈ XALL := xall 231 (by decide +kernel) (by decide +kernel)
theorem km_X1_34 : Cond.methodLink RX1 34 yX1_standsBelow ∈ XALL := xall 232 (by decide +kernel) (by decide +kernel)
theorem ki_yX1_standsBelow : Cond.instanceMethod yX1_standsBelow ∈ XALL := xall 234 (by decide +kernel) (by decide +kernel)
theorem kc_yX1_standsBelow : Cond.code yX1_standsBelow cX1_standsBelow 3 (some .boolean) ∈ XALL := xall 235 (by decide +kernel) (by decide +kernel)
theorem kmN_X1_30 : Cond.methodLinkNest RX1 30 yX3_isIn RX3 ∈ NW := nwall 236 (by decide +kernel) rfl
theorem kt_yX3_isIn : Cond.static yX3_isIn ∈ XALL := xall 237 (by decide +kernel) (by decide +kernel)
theorem kc_yX3_isIn : Cond.code yX3_isIn cX3_isIn 2 (some .boolean) ∈ XALL := xall 238 (by decide +kernel) (by decide +kernel)
theorem km_L_128 : Cond.methodLink RL 128 yX3_isBelow ∈ XALL := xall 239 (by decide +kernel) (by decide +kernel)
theorem ki_yX3_isBelow : Cond.instanceMethod yX3_isBelow ∈ XALL := xall 240 (by decide +kernel) (by decide +kernel)
theorem ks_yX3_isBelow : Cond.selects RX3 yX3_isBelow yX3_isBelow ∈ XALL := xall 241 (by decide +kernel) (by decide +kernel)
theorem kc_yX3_isBelow : Cond.code yX3_isBelow cX3_isBelow 3 (some .boolean) ∈ XALL := xall 242 (by decide +kernel) (by decide +kernel)
theorem kmN_X3_139 : Cond.methodLinkNest RX3 139 yX1_standsBelow RX3 ∈ NW := nwall 243 (by decide +kernel) rfl
theorem km_L_139 : Cond.methodLink RL 139 yX3_nearestAbove ∈ XALL := xall 244 (by decide +kernel) (by decide +kernel)
theorem ki_yX3_nearestAbove : Cond.instanceMethod yX3_nearestAbove ∈ XALL := xall 245 (by decide +kernel) (by decide +kernel)
theorem ks_yX3_nearestAbove : Cond.selects RX3 yX3_nearestAbove yX3_nearestAbove ∈ XALL := xall 246 (by decide +kernel) (by decide +kernel)
theorem kc_yX3_nearestAbove : Cond.code yX3_nearestAbove cX3_nearestAbove 3 (some .int) ∈ XALL := xall 247 (by decide +kernel) (by decide +kernel)
theorem kmN_X3_145 : Cond.methodLinkNest RX3 145 yX1_lowestOf RX3 ∈ NW := nwall 248 (by decide +kernel) rfl
theorem ki_yX1_lowestOf : Cond.instanceMethod yX1_lowestOf ∈ XALL := xall 250 (by decide +kernel) (by decide +kernel)
theorem kc_yX1_lowestOf : Cond.code yX1_lowestOf cX1_lowestOf 5 (some .int) ∈ XALL := xall 251 (by decide +kernel) (by decide +kernel)
theorem km_X1_42 : Cond.methodLink RX1 42 yX1_countAbove ∈ XALL := xall 252 (by decide +kernel) (by decide +kernel)
theorem km_L_133 : Cond.methodLink RL 133 yX3_dreamsWith ∈ XALL := xall 253 (by decide +kernel) (by decide +kernel)
theorem ki_yX3_dreamsWith : Cond.instanceMethod yX3_dreamsWith ∈ XALL := xall 254 (by decide +kernel) (by decide +kernel)
theorem ks_yX3_dreamsWith : Cond.selects RX3 yX3_dreamsWith yX3_dreamsWith ∈ XALL := xall 255 (by decide +kernel) (by decide +kernel)
theorem kc_yX3_dreamsWith : Cond.code yX3_dreamsWith cX3_dreamsWith 2 (some .int) ∈ XALL := xall 256 (by decide +kernel) (by decide +kernel)
theorem km_X3_148 : Cond.methodLink RX3 148 yX3_dreamsHaving ∈ XALL := xall 257 (by decide +kernel) (by decide +kernel)
theorem ki_yX3_dreamsHaving : Cond.instanceMethod yX3_dreamsHaving ∈ XALL := xall 259 (by decide +kernel) (by decide +kernel)
theorem kc_yX3_dreamsHaving : Cond.code yX3_dreamsHaving cX3_dreamsHaving 4 (some .int) ∈ XALL := xall 260 (by decide +kernel) (by decide +kernel)
theorem km_X3_98 : Cond.methodLink RX3 98 yX3_isIn ∈ XALL := xall 261 (by decide +kernel) (by decide +kernel)
theorem km_X3_104 : Cond.methodLink RX3 104 yJ6_bitCount_0f7a4 ∈ XALL := xall 262 (by decide +kernel) (by decide +kernel)
theorem km_L_142 : Cond.methodLink RL 142 yX3_hasOwnTag ∈ XALL := xall 263 (by decide +kernel) (by decide +kernel)
theorem ki_yX3_hasOwnTag : Cond.instanceMethod yX3_hasOwnTag ∈ XALL := xall 264 (by decide +kernel) (by decide +kernel)
theorem ks_yX3_hasOwnTag : Cond.selects RX3 yX3_hasOwnTag yX3_hasOwnTag ∈ XALL := xall 265 (by decide +kernel) (by decide +kernel)
theorem kc_yX3_hasOwnTag : Cond.code yX3_hasOwnTag cX3_hasOwnTag 3 (some .boolean) ∈ XALL := xall 266 (by decide +kernel) (by decide +kernel)
theorem km_X3_95 : Cond.methodLink RX3 95 yX3_requireDream ∈ XALL := xall 267 (by decide +kernel) (by decide +kernel)
theorem ki_yX3_requireDream : Cond.instanceMethod yX3_requireDream ∈ XALL := xall 269 (by decide +kernel) (by decide +kernel)
theorem kc_yX3_requireDream : Cond.code yX3_requireDream cX3_requireDream 2 none ∈ XALL := xall 270 (by decide +kernel) (by decide +kernel)
theorem km_L_145 : Cond.methodLink RL 145 yX3_hasTag ∈ XALL := xall 272 (by decide +kernel) (by decide +kernel)
theorem ki_yX3_hasTag : Cond.instanceMethod yX3_hasTag ∈ XALL := xall 273 (by decide +kernel) (by decide +kernel)
theorem ks_yX3_hasTag : Cond.selects RX3 yX3_hasTag yX3_hasTag ∈ XALL := xall 274 (by decide +kernel) (by decide +kernel)
theorem kc_yX3_hasTag : Cond.code yX3_hasTag cX3_hasTag 3 (some .boolean) ∈ XALL := xall 275 (by decide +kernel) (by decide +kernel)
theorem km_L_148 : Cond.methodLink RL 148 yX3_tagsOf ∈ XALL := xall 276 (by decide +kernel) (by decide +kernel)
theorem ki_yX3_tagsOf : Cond.instanceMethod yX3_tagsOf ∈ XALL := xall 277 (by decide +kernel) (by decide +kernel)
theorem ks_yX3_tagsOf : Cond.selects RX3 yX3_tagsOf yX3_tagsOf ∈ XALL := xall 278 (by decide +kernel) (by decide +kernel)
theorem kc_yX3_tagsOf : Cond.code yX3_tagsOf cX3_tagsOf 2 (some .int) ∈ XALL := xall 279 (by decide +kernel) (by decide +kernel)
theorem km_L_151 : Cond.methodLink RL 151 yX3_vividnessOf ∈ XALL := xall 280 (by decide +kernel) (by decide +kernel)
theorem ki_yX3_vividnessOf : Cond.instanceMethod yX3_vividnessOf ∈ XALL := xall 281 (by decide +kernel) (by decide +kernel)
theorem ks_yX3_vividnessOf : Cond.selects RX3 yX3_vividnessOf yX3_vividnessOf ∈ XALL := xall 282 (by decide +kernel) (by decide +kernel)
theorem kc_yX3_vividnessOf : Cond.code yX3_vividnessOf cX3_vividnessOf 2 (some .int) ∈ XALL := xall 283 (by decide +kernel) (by decide +kernel)
theorem km_L_154 : Cond.methodLink RL 154 yX3_nightOf ∈ XALL := xall 284 (by decide +kernel) (by decide +kernel)
theorem ki_yX3_nightOf : Cond.instanceMethod yX3_nightOf ∈ XALL := xall 285 (by decide +kernel) (by decide +kernel)
theorem ks_yX3_nightOf : Cond.selects RX3 yX3_nightOf yX3_nightOf ∈ XALL := xall 286 (by decide +kernel) (by decide +kernel)
theorem kc_yX3_nightOf : Cond.code yX3_nightOf cX3_nightOf 2 (some .int) ∈ XALL := xall 287 (by decide +kernel) (by decide +kernel)
theorem km_L_171 : Cond.methodLink RL 171 yX3_matches ∈ XALL := xall 288 (by decide +kernel) (by decide +kernel)
theorem ki_yX3_matches : Cond.instanceMethod yX3_matches ∈ XALL := xall 289 (by decide +kernel) (by decide +kernel)
theorem ks_yX3_matches : Cond.selects RX3 yX3_matches yX3_matches ∈ XALL := xall 290 (by decide +kernel) (by decide +kernel)
theorem kc_yX3_matches : Cond.code yX3_matches cX3_matches 3 (some .boolean) ∈ XALL := xall 291 (by decide +kernel) (by decide +kernel)
theorem km_X3_132 : Cond.methodLink RX3 132 yX3_requireTerm ∈ XALL := xall 292 (by decide +kernel) (by decide +kernel)
theorem ki_yX3_requireTerm : Cond.instanceMethod yX3_requireTerm ∈ XALL := xall 294 (by decide +kernel) (by decide +kernel)
theorem kc_yX3_requireTerm : Cond.code yX3_requireTerm cX3_requireTerm 2 none ∈ XALL := xall 295 (by decide +kernel) (by decide +kernel)
theorem km_L_177 : Cond.methodLink RL 177 yX3_matchesOf ∈ XALL := xall 297 (by decide +kernel) (by decide +kernel)
theorem ki_yX3_matchesOf : Cond.instanceMethod yX3_matchesOf ∈ XALL := xall 298 (by decide +kernel) (by decide +kernel)
theorem ks_yX3_matchesOf : Cond.selects RX3 yX3_matchesOf yX3_matchesOf ∈ XALL := xall 299 (by decide +kernel) (by decide +kernel)
theorem kc_yX3_matchesOf : Cond.code yX3_matchesOf cX3_matchesOf 2 (some .int) ∈ XALL := xall 300 (by decide +kernel) (by decide +kernel)
theorem km_L_168 : Cond.methodLink RL 168 yX3_commonTags ∈ XALL := xall 301 (by decide +kernel) (by decide +kernel)
theorem ki_yX3_commonTags : Cond.instanceMethod yX3_commonTags ∈ XALL := xall 302 (by decide +kernel) (by decide +kernel)
theorem ks_yX3_commonTags : Cond.selects RX3 yX3_commonTags yX3_commonTags ∈ XALL := xall 303 (by decide +kernel) (by decide +kernel)
theorem kc_yX3_commonTags : Cond.code yX3_commonTags cX3_commonTags 2 (some .int) ∈ XALL := xall 304 (by decide +kernel) (by decide +kernel)
theorem km_X3_157 : Cond.methodLink RX3 157 yX3_tagsSharedBy ∈ XALL := xall 305 (by decide +kernel) (by decide +kernel)
theorem ki_yX3_tagsSharedBy : Cond.instanceMethod yX3_tagsSharedBy ∈ XALL := xall 307 (by decide +kernel) (by decide +kernel)
theorem kc_yX3_tagsSharedBy : Cond.code yX3_tagsSharedBy cX3_tagsSharedBy 4 (some .int) ∈ XALL := xall 308 (by decide +kernel) (by decide +kernel)
theorem kk_X3_241 : Cond.constant RX3 241 (65535) ∈ XALL := xall 309 (by decide +kernel) (by decide +kernel)
theorem km_L_180 : Cond.methodLink RL 180 yX3_matchSame ∈ XALL := xall 310 (by decide +kernel) (by decide +kernel)
theorem ki_yX3_matchSame : Cond.instanceMethod yX3_matchSame ∈ XALL := xall 311 (by decide +kernel) (by decide +kernel)
theorem ks_yX3_matchSame : Cond.selects RX3 yX3_matchSame yX3_matchSame ∈ XALL := xall 312 (by decide +kernel) (by decide +kernel)
theorem kc_yX3_matchSame : Cond.code yX3_matchSame cX3_matchSame 3 (some .boolean) ∈ XALL := xall 313 (by decide +kernel) (by decide +kernel)
theorem km_L_174 : Cond.methodLink RL 174 yX3_coverSize ∈ XALL := xall 314 (by decide +kernel) (by decide +kernel)
theorem ki_yX3_coverSize : Cond.instanceMethod yX3_coverSize ∈ XALL := xall 315 (by decide +kernel) (by decide +kernel)
theorem ks_yX3_coverSize : Cond.selects RX3 yX3_coverSize yX3_coverSize ∈ XALL := xall 316 (by decide +kernel) (by decide +kernel)
theorem kc_yX3_coverSize : Cond.code yX3_coverSize cX3_coverSize 2 (some .int) ∈ XALL := xall 317 (by decide +kernel) (by decide +kernel)
theorem km_X3_160 : Cond.methodLink RX3 160 yX3_smallestCover ∈ XALL := xall 318 (by decide +kernel) (by decide +kernel)
theorem ki_yX3_smallestCover : Cond.instanceMethod yX3_smallestCover ∈ XALL := xall 320 (by decide +kernel) (by decide +kernel)
theorem kc_yX3_smallestCover : Cond.code yX3_smallestCover cX3_smallestCover 4 (some .int) ∈ XALL := xall 321 (by decide +kernel) (by decide +kernel)
theorem kmN_X3_245 : Cond.methodLinkNest RX3 245 yX0_smallestOf RX3 ∈ NW := nwall 322 (by decide +kernel) rfl
theorem ki_yX0_smallestOf : Cond.instanceMethod yX0_smallestOf ∈ XALL := xall 324 (by decide +kernel) (by decide +kernel)
theorem kc_yX0_smallestOf : Cond.code yX0_smallestOf cX0_smallestOf 4 (some .int) ∈ XALL := xall 325 (by decide +kernel) (by decide +kernel)
theorem km_X0_18 : Cond.methodLink RX0 18 yX0_coverFrom ∈ XALL := xall 326 (by decide +kernel) (by decide +kernel)
theorem kt_yX0_coverFrom : Cond.static yX0_coverFrom ∈ XALL := xall 327 (by decide +kernel) (by decide +kernel)
theorem kc_yX0_coverFrom : Cond.code yX0_coverFrom cX0_coverFrom 7 (some .int) ∈ XALL := xall 328 (by decide +kernel) (by decide +kernel)
theorem km_L_118 : Cond.methodLink RL 118 yX3_tags ∈ XALL := xall 329 (by decide +kernel) (by decide +kernel)
theorem ki_yX3_tags : Cond.instanceMethod yX3_tags ∈ XALL := xall 330 (by decide +kernel) (by decide +kernel)
theorem ks_yX3_tags : Cond.selects RX3 yX3_tags yX3_tags ∈ XALL := xall 331 (by decide +kernel) (by decide +kernel)
theorem kc_yX3_tags : Cond.code yX3_tags cX3_tags 1 (some .int) ∈ XALL := xall 332 (by decide +kernel) (by decide +kernel)
theorem km_L_120 : Cond.methodLink RL 120 yX3_dreams ∈ XALL := xall 333 (by decide +kernel) (by decide +kernel)
theorem ki_yX3_dreams : Cond.instanceMethod yX3_dreams ∈ XALL := xall 334 (by decide +kernel) (by decide +kernel)
theorem ks_yX3_dreams : Cond.selects RX3 yX3_dreams yX3_dreams ∈ XALL := xall 335 (by decide +kernel) (by decide +kernel)
theorem kc_yX3_dreams : Cond.code yX3_dreams cX3_dreams 1 (some .int) ∈ XALL := xall 336 (by decide +kernel) (by decide +kernel)
theorem km_L_166 : Cond.methodLink RL 166 yX3_terms ∈ XALL := xall 337 (by decide +kernel) (by decide +kernel)
theorem ki_yX3_terms : Cond.instanceMethod yX3_terms ∈ XALL := xall 338 (by decide +kernel) (by decide +kernel)
theorem ks_yX3_terms : Cond.selects RX3 yX3_terms yX3_terms ∈ XALL := xall 339 (by decide +kernel) (by decide +kernel)
theorem kc_yX3_terms : Cond.code yX3_terms cX3_terms 1 (some .int) ∈ XALL := xall 340 (by decide +kernel) (by decide +kernel)
theorem km_L_157 : Cond.methodLink RL 157 yX3_nights ∈ XALL := xall 341 (by decide +kernel) (by decide +kernel)
theorem ki_yX3_nights : Cond.instanceMethod yX3_nights ∈ XALL := xall 342 (by decide +kernel) (by decide +kernel)
theorem ks_yX3_nights : Cond.selects RX3 yX3_nights yX3_nights ∈ XALL := xall 343 (by decide +kernel) (by decide +kernel)
theorem kc_yX3_nights : Cond.code yX3_nights cX3_nights 1 (some .int) ∈ XALL := xall 344 (by decide +kernel) (by decide +kernel)
theorem km_L_159 : Cond.methodLink RL 159 yX3_fadedDreams ∈ XALL := xall 345 (by decide +kernel) (by decide +kernel)
theorem ki_yX3_fadedDreams : Cond.instanceMethod yX3_fadedDreams ∈ XALL := xall 346 (by decide +kernel) (by decide +kernel)
theorem ks_yX3_fadedDreams : Cond.selects RX3 yX3_fadedDreams yX3_fadedDreams ∈ XALL := xall 347 (by decide +kernel) (by decide +kernel)
theorem kc_yX3_fadedDreams : Cond.code yX3_fadedDreams cX3_fadedDreams 1 (some .int) ∈ XALL := xall 348 (by decide +kernel) (by decide +kernel)
theorem km_X3_122 : Cond.methodLink RX3 122 yX3_countFadedAfter ∈ XALL := xall 349 (by decide +kernel) (by decide +kernel)
theorem ki_yX3_countFadedAfter : Cond.instanceMethod yX3_countFadedAfter ∈ XALL := xall 351 (by decide +kernel) (by decide +kernel)
theorem kc_yX3_countFadedAfter : Cond.code yX3_countFadedAfter cX3_countFadedAfter 4 (some .int) ∈ XALL := xall 352 (by decide +kernel) (by decide +kernel)
theorem km_X3_118 : Cond.methodLink RX3 118 yX3_vividnessAfter ∈ XALL := xall 353 (by decide +kernel) (by decide +kernel)
theorem ki_yX3_vividnessAfter : Cond.instanceMethod yX3_vividnessAfter ∈ XALL := xall 355 (by decide +kernel) (by decide +kernel)
theorem kc_yX3_vividnessAfter : Cond.code yX3_vividnessAfter cX3_vividnessAfter 4 (some .int) ∈ XALL := xall 356 (by decide +kernel) (by decide +kernel)
theorem km_X3_233 : Cond.methodLink RX3 233 yX3_ownTagsOfLatest ∈ XALL := xall 357 (by decide +kernel) (by decide +kernel)
theorem ki_yX3_ownTagsOfLatest : Cond.instanceMethod yX3_ownTagsOfLatest ∈ XALL := xall 359 (by decide +kernel) (by decide +kernel)
theorem kc_yX3_ownTagsOfLatest : Cond.code yX3_ownTagsOfLatest cX3_ownTagsOfLatest 1 (some .int) ∈ XALL := xall 360 (by decide +kernel) (by decide +kernel)
theorem km_X3_236 : Cond.methodLink RX3 236 yJ9_max_7cf53 ∈ XALL := xall 361 (by decide +kernel) (by decide +kernel)
theorem kt_yJ9_max_7cf53 : Cond.static yJ9_max_7cf53 ∈ XALL := xall 362 (by decide +kernel) (by decide +kernel)
theorem kc_yJ9_max_7cf53 : Cond.code yJ9_max_7cf53 cJ9_max_7cf53 2 (some .int) ∈ XALL := xall 363 (by decide +kernel) (by decide +kernel)
theorem km_L_162 : Cond.methodLink RL 162 yX3_meanVividness ∈ XALL := xall 364 (by decide +kernel) (by decide +kernel)
theorem ki_yX3_meanVividness : Cond.instanceMethod yX3_meanVividness ∈ XALL := xall 365 (by decide +kernel) (by decide +kernel)
theorem ks_yX3_meanVividness : Cond.selects RX3 yX3_meanVividness yX3_meanVividness ∈ XALL := xall 366 (by decide +kernel) (by decide +kernel)
theorem kc_yX3_meanVividness : Cond.code yX3_meanVividness cX3_meanVividness 3 (some .double) ∈ XALL := xall 367 (by decide +kernel) (by decide +kernel)
theorem km_L_183 : Cond.methodLink RL 183 yX4_isSame ∈ XALL := xall 368 (by decide +kernel) (by decide +kernel)
theorem ki_yX4_isSame : Cond.instanceMethod yX4_isSame ∈ XALL := xall 369 (by decide +kernel) (by decide +kernel)
theorem ks_yX4_isSame : Cond.selects RX4 yX4_isSame yX4_isSame ∈ XALL := xall 370 (by decide +kernel) (by decide +kernel)
theorem kc_yX4_isSame : Cond.code yX4_isSame cX4_isSame 7 (some .boolean) ∈ XALL := xall 371 rfl (by decide +kernel)
theorem km_X4_50 : Cond.methodLink RX4 50 yX3_tags ∈ XALL := xall 372 (by decide +kernel) (by decide +kernel)
theorem km_X4_55 : Cond.methodLink RX4 55 yX3_dreams ∈ XALL := xall 373 (by decide +kernel) (by decide +kernel)
theorem km_X4_57 : Cond.methodLink RX4 57 yX3_terms ∈ XALL := xall 374 (by decide +kernel) (by decide +kernel)
theorem km_X4_59 : Cond.methodLink RX4 59 yX3_nights ∈ XALL := xall 375 (by decide +kernel) (by decide +kernel)
theorem km_X4_64 : Cond.methodLink RX4 64 yX3_fadedDreams ∈ XALL := xall 376 (by decide +kernel) (by decide +kernel)
theorem km_X4_67 : Cond.methodLink RX4 67 yX4_faded ∈ XALL := xall 377 (by decide +kernel) (by decide +kernel)
theorem ki_yX4_faded : Cond.instanceMethod yX4_faded ∈ XALL := xall 378 (by decide +kernel) (by decide +kernel)
theorem ks_yX4_faded : Cond.selects RX4 yX4_faded yX4_faded ∈ XALL := xall 379 (by decide +kernel) (by decide +kernel)
theorem kc_yX4_faded : Cond.code yX4_faded cX4_faded 4 (some .int) ∈ XALL := xall 380 (by decide +kernel) (by decide +kernel)
theorem km_X4_46 : Cond.methodLink RX4 46 yX4_later ∈ XALL := xall 381 (by decide +kernel) (by decide +kernel)
theorem ki_yX4_later : Cond.instanceMethod yX4_later ∈ XALL := xall 382 (by decide +kernel) (by decide +kernel)
theorem ks_yX4_later : Cond.selects RX4 yX4_later yX4_later ∈ XALL := xall 383 (by decide +kernel) (by decide +kernel)
theorem kc_yX4_later : Cond.code yX4_later cX4_later 4 (some .int) ∈ XALL := xall 384 (by decide +kernel) (by decide +kernel)
theorem km_X4_33 : Cond.methodLink RX4 33 yX4_isBelow ∈ XALL := xall 385 (by decide +kernel) (by decide +kernel)
theorem ki_yX4_isBelow : Cond.instanceMethod yX4_isBelow ∈ XALL := xall 386 (by decide +kernel) (by decide +kernel)
theorem ks_yX4_isBelow : Cond.selects RX4 yX4_isBelow yX4_isBelow ∈ XALL := xall 387 (by decide +kernel) (by decide +kernel)
theorem kc_yX4_isBelow : Cond.code yX4_isBelow cX4_isBelow 4 (some .boolean) ∈ XALL := xall 388 (by decide +kernel) (by decide +kernel)
theorem km_X4_71 : Cond.methodLink RX4 71 yX3_isBelow ∈ XALL := xall 389 (by decide +kernel) (by decide +kernel)
theorem km_X4_43 : Cond.methodLink RX4 43 yX4_hasTag ∈ XALL := xall 390 (by decide +kernel) (by decide +kernel)
theorem ki_yX4_hasTag : Cond.instanceMethod yX4_hasTag ∈ XALL := xall 391 (by decide +kernel) (by decide +kernel)
theorem ks_yX4_hasTag : Cond.selects RX4 yX4_hasTag yX4_hasTag ∈ XALL := xall 392 (by decide +kernel) (by decide +kernel)
theorem kc_yX4_hasTag : Cond.code yX4_hasTag cX4_hasTag 4 (some .boolean) ∈ XALL := xall 393 (by decide +kernel) (by decide +kernel)
theorem km_X4_72 : Cond.methodLink RX4 72 yX3_hasParent ∈ XALL := xall 394 (by decide +kernel) (by decide +kernel)
theorem km_X4_76 : Cond.methodLink RX4 76 yX3_parentOf ∈ XALL := xall 395 (by decide +kernel) (by decide +kernel)
theorem km_X4_79 : Cond.methodLink RX4 79 yX3_tagsAbove ∈ XALL := xall 396 (by decide +kernel) (by decide +kernel)
theorem km_X4_82 : Cond.methodLink RX4 82 yX3_tagsBelow ∈ XALL := xall 397 (by decide +kernel) (by decide +kernel)
theorem km_X4_85 : Cond.methodLink RX4 85 yX3_dreamsWith ∈ XALL := xall 398 (by decide +kernel) (by decide +kernel)
theorem km_X4_88 : Cond.methodLink RX4 88 yX3_hasOwnTag ∈ XALL := xall 399 (by decide +kernel) (by decide +kernel)
theorem km_X4_91 : Cond.methodLink RX4 91 yX3_hasTag ∈ XALL := xall 400 (by decide +kernel) (by decide +kernel)
theorem km_X4_92 : Cond.methodLink RX4 92 yX3_tagsOf ∈ XALL := xall 401 (by decide +kernel) (by decide +kernel)
theorem km_X4_95 : Cond.methodLink RX4 95 yX3_vividnessOf ∈ XALL := xall 402 (by decide +kernel) (by decide +kernel)
theorem km_X4_98 : Cond.methodLink RX4 98 yX3_nightOf ∈ XALL := xall 403 (by decide +kernel) (by decide +kernel)
theorem km_X4_101 : Cond.methodLink RX4 101 yX4_matches ∈ XALL := xall 404 (by decide +kernel) (by decide +kernel)
theorem ki_yX4_matches : Cond.instanceMethod yX4_matches ∈ XALL := xall 405 (by decide +kernel) (by decide +kernel)
theorem ks_yX4_matches : Cond.selects RX4 yX4_matches yX4_matches ∈ XALL := xall 406 (by decide +kernel) (by decide +kernel)
theorem kc_yX4_matches : Cond.code yX4_matches cX4_matches 5 (some (.array (.array .boolean))) ∈ XALL := xall 407 rfl (by decide +kernel)
theorem kl_X4_13 : Cond.classLink RX4 13 "[[Z" ∈ XALL := xall 408 (by decide +kernel) (by decide +kernel)
theorem kao_boolean : Cond.arrayOver (.array .boolean) ∈ lw_tbl := List.mem_append_right _ (List.mem_of_getElem? (i := 409) (by decide +kernel))
theorem km_X4_105 : Cond.methodLink RX4 105 yX3_matches ∈ XALL := xall 410 (by decide +kernel) (by decide +kernel)
theorem km_X4_107 : Cond.methodLink RX4 107 yX3_matchesOf ∈ XALL := xall 411 (by decide +kernel) (by decide +kernel)
theorem km_X4_110 : Cond.methodLink RX4 110 yX3_meanVividness ∈ XALL := xall 412 (by decide +kernel) (by decide +kernel)
theorem ka_boolean : Cond.arrayClass .boolean ∈ XALL := xall 413 (by decide +kernel) (by decide +kernel)
theorem km_L_9 : Cond.methodLink RL 9 yL_below ∈ XALL := xall 414 (by decide +kernel) (by decide +kernel)
theorem kt_yL_below : Cond.static yL_below ∈ XALL := xall 415 (by decide +kernel) (by decide +kernel)
theorem kc_yL_below : Cond.code yL_below cL_below 2 (some .int) ∈ XALL := xall 416 (by decide +kernel) (by decide +kernel)
theorem kk_L_7 : Cond.constant RL 7 (2147483647) ∈ XALL := xall 417 (by decide +kernel) (by decide +kernel)
theorem km_L_105 : Cond.methodLink RL 105 yL_cell ∈ XALL := xall 418 (by decide +kernel) (by decide +kernel)
theorem kt_yL_cell : Cond.static yL_cell ∈ XALL := xall 419 (by decide +kernel) (by decide +kernel)
theorem kc_yL_cell : Cond.code yL_cell cL_cell 2 (some .int) ∈ XALL := xall 420 (by decide +kernel) (by decide +kernel)
theorem kk_L_8 : Cond.constant RL 8 (790386105) ∈ XALL := xall 421 (by decide +kernel) (by decide +kernel)
theorem km_L_109 : Cond.methodLink RL 109 yL_act ∈ XALL := xall 422 (by decide +kernel) (by decide +kernel)
theorem kt_yL_act : Cond.static yL_act ∈ XALL := xall 423 (by decide +kernel) (by decide +kernel)
theorem kc_yL_act : Cond.code yL_act cL_act 15 (some .boolean) ∈ XALL := xall 424 rfl (by decide +kernel)
theorem km_L_25 : Cond.methodLink RL 25 yX3_addTag ∈ XALL := xall 425 (by decide +kernel) (by decide +kernel)
theorem ki_yX3_addTag : Cond.instanceMethod yX3_addTag ∈ XALL := xall 426 (by decide +kernel) (by decide +kernel)
theorem ks_yX3_addTag : Cond.selects RX3 yX3_addTag yX3_addTag ∈ XALL := xall 427 (by decide +kernel) (by decide +kernel)
theorem kc_yX3_addTag : Cond.code yX3_addTag cX3_addTag 1 (some .int) ∈ XALL := xall 428 (by decide +kernel) (by decide +kernel)
theorem kmN_X3_54 : Cond.methodLinkNest RX3 54 yX1_grow RX3 ∈ NW := nwall 430 (by decide +kernel) rfl
theorem ki_yX1_grow : Cond.instanceMethod yX1_grow ∈ XALL := xall 432 (by decide +kernel) (by decide +kernel)
theorem kc_yX1_grow : Cond.code yX1_grow cX1_grow 2 (some .int) ∈ XALL := xall 433 (by decide +kernel) (by decide +kernel)
theorem km_X1_22 : Cond.methodLink RX1 22 yX1_hang ∈ XALL := xall 434 (by decide +kernel) (by decide +kernel)
theorem ki_yX1_hang : Cond.instanceMethod yX1_hang ∈ XALL := xall 436 (by decide +kernel) (by decide +kernel)
theorem kc_yX1_hang : Cond.code yX1_hang cX1_hang 4 none ∈ XALL := xall 437 (by decide +kernel) (by decide +kernel)
theorem km_X1_26 : Cond.methodLink RX1 26 yX1_lineFrom ∈ XALL := xall 438 (by decide +kernel) (by decide +kernel)
theorem ki_yX1_lineFrom : Cond.instanceMethod yX1_lineFrom ∈ XALL := xall 440 (by decide +kernel) (by decide +kernel)
theorem kc_yX1_lineFrom : Cond.code yX1_lineFrom cX1_lineFrom 5 (some .int) ∈ XALL := xall 441 (by decide +kernel) (by decide +kernel)
theorem km_L_31 : Cond.methodLink RL 31 yX4_isBelow ∈ XALL := xall 442 (by decide +kernel) (by decide +kernel)
theorem km_L_35 : Cond.methodLink RL 35 yX3_putUnder ∈ XALL := xall 443 (by decide +kernel) (by decide +kernel)
theorem ki_yX3_putUnder : Cond.instanceMethod yX3_putUnder ∈ XALL := xall 444 (by decide +kernel) (by decide +kernel)
theorem ks_yX3_putUnder : Cond.selects RX3 yX3_putUnder yX3_putUnder ∈ XALL := xall 445 (by decide +kernel) (by decide +kernel)
theorem kc_yX3_putUnder : Cond.code yX3_putUnder cX3_putUnder 3 (some .int) ∈ XALL := xall 446 (by decide +kernel) (by decide +kernel)
theorem km_X3_58 : Cond.methodLink RX3 58 yX3_requirePlaceUnder ∈ XALL := xall 447 (by decide +kernel) (by decide +kernel)
theorem ki_yX3_requirePlaceUnder : Cond.instanceMethod yX3_requirePlaceUnder ∈ XALL := xall 449 (by decide +kernel) (by decide +kernel)
theorem kc_yX3_requirePlaceUnder : Cond.code yX3_requirePlaceUnder cX3_requirePlaceUnder 3 none ∈ XALL := xall 450 (by decide +kernel) (by decide +kernel)
theorem kl_X3_79 : Cond.classLink RX3 79 "java/lang/IllegalArgumentException" ∈ XALL := xall 451 (by decide +kernel) (by decide +kernel)
theorem kmN_X3_174 : Cond.methodLinkNest RX3 174 yX1_canHang RX3 ∈ NW := nwall 467 (by decide +kernel) rfl
theorem ki_yX1_canHang : Cond.instanceMethod yX1_canHang ∈ XALL := xall 469 (by decide +kernel) (by decide +kernel)
theorem kc_yX1_canHang : Cond.code yX1_canHang cX1_canHang 3 (some .boolean) ∈ XALL := xall 470 (by decide +kernel) (by decide +kernel)
theorem km_X3_62 : Cond.methodLink RX3 62 yX3_moveTag ∈ XALL := xall 472 (by decide +kernel) (by decide +kernel)
theorem ki_yX3_moveTag : Cond.instanceMethod yX3_moveTag ∈ XALL := xall 474 (by decide +kernel) (by decide +kernel)
theorem kc_yX3_moveTag : Cond.code yX3_moveTag cX3_moveTag 4 none ∈ XALL := xall 475 (by decide +kernel) (by decide +kernel)
theorem kmN_X3_209 : Cond.methodLinkNest RX3 209 yX1_hang RX3 ∈ NW := nwall 476 (by decide +kernel) rfl
theorem kmN_X3_212 : Cond.methodLinkNest RX3 212 yX1_linesOf RX3 ∈ NW := nwall 477 (by decide +kernel) rfl
theorem ki_yX1_linesOf : Cond.instanceMethod yX1_linesOf ∈ XALL := xall 479 (by decide +kernel) (by decide +kernel)
theorem kc_yX1_linesOf : Cond.code yX1_linesOf cX1_linesOf 4 (some .int) ∈ XALL := xall 480 (by decide +kernel) (by decide +kernel)
theorem km_X3_215 : Cond.methodLink RX3 215 yX3_rematchTerms ∈ XALL := xall 481 (by decide +kernel) (by decide +kernel)
theorem ki_yX3_rematchTerms : Cond.instanceMethod yX3_rematchTerms ∈ XALL := xall 483 (by decide +kernel) (by decide +kernel)
theorem kc_yX3_rematchTerms : Cond.code yX3_rematchTerms cX3_rematchTerms 2 none ∈ XALL := xall 484 (by decide +kernel) (by decide +kernel)
theorem km_X3_227 : Cond.methodLink RX3 227 yX3_allDreams ∈ XALL := xall 485 (by decide +kernel) (by decide +kernel)
theorem ki_yX3_allDreams : Cond.instanceMethod yX3_allDreams ∈ XALL := xall 487 (by decide +kernel) (by decide +kernel)
theorem kc_yX3_allDreams : Cond.code yX3_allDreams cX3_allDreams 1 (some .int) ∈ XALL := xall 488 (by decide +kernel) (by decide +kernel)
theorem kmN_X3_230 : Cond.methodLinkNest RX3 230 yX2_combine RX3 ∈ NW := nwall 489 (by decide +kernel) rfl
theorem ki_yX2_combine : Cond.instanceMethod yX2_combine ∈ XALL := xall 491 (by decide +kernel) (by decide +kernel)
theorem kc_yX2_combine : Cond.code yX2_combine cX2_combine 5 none ∈ XALL := xall 492 (by decide +kernel) (by decide +kernel)
theorem km_X2_28 : Cond.methodLink RX2 28 yX2_matchedAhead ∈ XALL := xall 493 (by decide +kernel) (by decide +kernel)
theorem ki_yX2_matchedAhead : Cond.instanceMethod yX2_matchedAhead ∈ XALL := xall 495 (by decide +kernel) (by decide +kernel)
theorem kc_yX2_matchedAhead : Cond.code yX2_matchedAhead cX2_matchedAhead 3 (some .int) ∈ XALL := xall 496 (by decide +kernel) (by decide +kernel)
theorem km_L_38 : Cond.methodLink RL 38 yX3_freeTag ∈ XALL := xall 497 (by decide +kernel) (by decide +kernel)
theorem ki_yX3_freeTag : Cond.instanceMethod yX3_freeTag ∈ XALL := xall 498 (by decide +kernel) (by decide +kernel)
theorem ks_yX3_freeTag : Cond.selects RX3 yX3_freeTag yX3_freeTag ∈ XALL := xall 499 (by decide +kernel) (by decide +kernel)
theorem kc_yX3_freeTag : Cond.code yX3_freeTag cX3_freeTag 3 (some .int) ∈ XALL := xall 500 (by decide +kernel) (by decide +kernel)
theorem km_L_58 : Cond.methodLink RL 58 yX3_addDream ∈ XALL := xall 501 (by decide +kernel) (by decide +kernel)
theorem ki_yX3_addDream : Cond.instanceMethod yX3_addDream ∈ XALL := xall 502 (by decide +kernel) (by decide +kernel)
theorem ks_yX3_addDream : Cond.selects RX3 yX3_addDream yX3_addDream ∈ XALL := xall 503 (by decide +kernel) (by decide +kernel)
theorem kc_yX3_addDream : Cond.code yX3_addDream cX3_addDream 4 (some .int) ∈ XALL := xall 504 (by decide +kernel) (by decide +kernel)
theorem km_X3_92 : Cond.methodLink RX3 92 yX3_setOwnTags ∈ XALL := xall 507 (by decide +kernel) (by decide +kernel)
theorem ki_yX3_setOwnTags : Cond.instanceMethod yX3_setOwnTags ∈ XALL := xall 509 (by decide +kernel) (by decide +kernel)
theorem kc_yX3_setOwnTags : Cond.code yX3_setOwnTags cX3_setOwnTags 3 none ∈ XALL := xall 510 (by decide +kernel) (by decide +kernel)
theorem km_L_61 : Cond.methodLink RL 61 yX3_tagDream ∈ XALL := xall 511 (by decide +kernel) (by decide +kernel)
theorem ki_yX3_tagDream : Cond.instanceMethod yX3_tagDream ∈ XALL := xall 512 (by decide +kernel) (by decide +kernel)
theorem ks_yX3_tagDream : Cond.selects RX3 yX3_tagDream yX3_tagDream ∈ XALL := xall 513 (by decide +kernel) (by decide +kernel)
theorem kc_yX3_tagDream : Cond.code yX3_tagDream cX3_tagDream 3 (some .int) ∈ XALL := xall 514 (by decide +kernel) (by decide +kernel)
theorem km_L_64 : Cond.methodLink RL 64 yX4_ownTags ∈ XALL := xall 516 (by decide +kernel) (by decide +kernel)
theorem ki_yX4_ownTags : Cond.instanceMethod yX4_ownTags ∈ XALL := xall 517 (by decide +kernel) (by decide +kernel)
theorem ks_yX4_ownTags : Cond.selects RX4 yX4_ownTags yX4_ownTags ∈ XALL := xall 518 (by decide +kernel) (by decide +kernel)
theorem kc_yX4_ownTags : Cond.code yX4_ownTags cX4_ownTags 7 (some .int) ∈ XALL := xall 519 (by decide +kernel) (by decide +kernel)
theorem km_L_67 : Cond.methodLink RL 67 yX3_untagDream ∈ XALL := xall 520 (by decide +kernel) (by decide +kernel)
theorem ki_yX3_untagDream : Cond.instanceMethod yX3_untagDream ∈ XALL := xall 521 (by decide +kernel) (by decide +kernel)
theorem ks_yX3_untagDream : Cond.selects RX3 yX3_untagDream yX3_untagDream ∈ XALL := xall 522 (by decide +kernel) (by decide +kernel)
theorem kc_yX3_untagDream : Cond.code yX3_untagDream cX3_untagDream 3 (some .int) ∈ XALL := xall 523 (by decide +kernel) (by decide +kernel)
theorem km_L_70 : Cond.methodLink RL 70 yX3_recall ∈ XALL := xall 526 (by decide +kernel) (by decide +kernel)
theorem ki_yX3_recall : Cond.instanceMethod yX3_recall ∈ XALL := xall 527 (by decide +kernel) (by decide +kernel)
theorem ks_yX3_recall : Cond.selects RX3 yX3_recall yX3_recall ∈ XALL := xall 528 (by decide +kernel) (by decide +kernel)
theorem kc_yX3_recall : Cond.code yX3_recall cX3_recall 4 (some .int) ∈ XALL := xall 529 (by decide +kernel) (by decide +kernel)
theorem km_L_73 : Cond.methodLink RL 73 yX4_later ∈ XALL := xall 531 (by decide +kernel) (by decide +kernel)
theorem km_L_76 : Cond.methodLink RL 76 yX3_passNights ∈ XALL := xall 532 (by decide +kernel) (by decide +kernel)
theorem ki_yX3_passNights : Cond.instanceMethod yX3_passNights ∈ XALL := xall 533 (by decide +kernel) (by decide +kernel)
theorem ks_yX3_passNights : Cond.selects RX3 yX3_passNights yX3_passNights ∈ XALL := xall 534 (by decide +kernel) (by decide +kernel)
theorem kc_yX3_passNights : Cond.code yX3_passNights cX3_passNights 3 (some .int) ∈ XALL := xall 535 (by decide +kernel) (by decide +kernel)
theorem km_X3_115 : Cond.methodLink RX3 115 yX3_requireNights ∈ XALL := xall 536 (by decide +kernel) (by decide +kernel)
theorem ki_yX3_requireNights : Cond.instanceMethod yX3_requireNights ∈ XALL := xall 538 (by decide +kernel) (by decide +kernel)
theorem kc_yX3_requireNights : Cond.code yX3_requireNights cX3_requireNights 2 none ∈ XALL := xall 539 (by decide +kernel) (by decide +kernel)
theorem km_L_79 : Cond.methodLink RL 79 yX4_faded ∈ XALL := xall 541 (by decide +kernel) (by decide +kernel)
theorem km_L_85 : Cond.methodLink RL 85 yX3_clearTerms ∈ XALL := xall 542 (by decide +kernel) (by decide +kernel)
theorem ki_yX3_clearTerms : Cond.instanceMethod yX3_clearTerms ∈ XALL := xall 543 (by decide +kernel) (by decide +kernel)
theorem ks_yX3_clearTerms : Cond.selects RX3 yX3_clearTerms yX3_clearTerms ∈ XALL := xall 544 (by decide +kernel) (by decide +kernel)
theorem kc_yX3_clearTerms : Cond.code yX3_clearTerms cX3_clearTerms 2 (some .int) ∈ XALL := xall 545 (by decide +kernel) (by decide +kernel)
theorem km_L_92 : Cond.methodLink RL 92 yX3_addTagTerm ∈ XALL := xall 546 (by decide +kernel) (by decide +kernel)
theorem ki_yX3_addTagTerm : Cond.instanceMethod yX3_addTagTerm ∈ XALL := xall 547 (by decide +kernel) (by decide +kernel)
theorem ks_yX3_addTagTerm : Cond.selects RX3 yX3_addTagTerm yX3_addTagTerm ∈ XALL := xall 548 (by decide +kernel) (by decide +kernel)
theorem kc_yX3_addTagTerm : Cond.code yX3_addTagTerm cX3_addTagTerm 2 (some .int) ∈ XALL := xall 549 (by decide +kernel) (by decide +kernel)
theorem km_X3_125 : Cond.methodLink RX3 125 yX3_requireRoomForTerm ∈ XALL := xall 550 (by decide +kernel) (by decide +kernel)
theorem ki_yX3_requireRoomForTerm : Cond.instanceMethod yX3_requireRoomForTerm ∈ XALL := xall 552 (by decide +kernel) (by decide +kernel)
theorem kc_yX3_requireRoomForTerm : Cond.code yX3_requireRoomForTerm cX3_requireRoomForTerm 1 none ∈ XALL := xall 553 (by decide +kernel) (by decide +kernel)
theorem km_X3_128 : Cond.methodLink RX3 128 yX3_addTerm ∈ XALL := xall 555 (by decide +kernel) (by decide +kernel)
theorem ki_yX3_addTerm : Cond.instanceMethod yX3_addTerm ∈ XALL := xall 557 (by decide +kernel) (by decide +kernel)
theorem kc_yX3_addTerm : Cond.code yX3_addTerm cX3_addTerm 5 (some .int) ∈ XALL := xall 558 (by decide +kernel) (by decide +kernel)
theorem kmN_X3_218 : Cond.methodLinkNest RX3 218 yX2_add RX3 ∈ NW := nwall 559 (by decide +kernel) rfl
theorem ki_yX2_add : Cond.instanceMethod yX2_add ∈ XALL := xall 561 (by decide +kernel) (by decide +kernel)
theorem kc_yX2_add : Cond.code yX2_add cX2_add 5 (some .int) ∈ XALL := xall 562 (by decide +kernel) (by decide +kernel)
theorem km_L_95 : Cond.methodLink RL 95 yX3_addBothTerm ∈ XALL := xall 563 (by decide +kernel) (by decide +kernel)
theorem ki_yX3_addBothTerm : Cond.instanceMethod yX3_addBothTerm ∈ XALL := xall 564 (by decide +kernel) (by decide +kernel)
theorem ks_yX3_addBothTerm : Cond.selects RX3 yX3_addBothTerm yX3_addBothTerm ∈ XALL := xall 565 (by decide +kernel) (by decide +kernel)
theorem kc_yX3_addBothTerm : Cond.code yX3_addBothTerm cX3_addBothTerm 3 (some .int) ∈ XALL := xall 566 (by decide +kernel) (by decide +kernel)
theorem km_L_98 : Cond.methodLink RL 98 yX3_addEitherTerm ∈ XALL := xall 567 (by decide +kernel) (by decide +kernel)
theorem ki_yX3_addEitherTerm : Cond.instanceMethod yX3_addEitherTerm ∈ XALL := xall 568 (by decide +kernel) (by decide +kernel)
theorem ks_yX3_addEitherTerm : Cond.selects RX3 yX3_addEitherTerm yX3_addEitherTerm ∈ XALL := xall 569 (by decide +kernel) (by decide +kernel)
theorem kc_yX3_addEitherTerm : Cond.code yX3_addEitherTerm cX3_addEitherTerm 3 (some .int) ∈ XALL := xall 570 (by decide +kernel) (by decide +kernel)
theorem km_L_101 : Cond.methodLink RL 101 yX3_addWithoutTerm ∈ XALL := xall 571 (by decide +kernel) (by decide +kernel)
theorem ki_yX3_addWithoutTerm : Cond.instanceMethod yX3_addWithoutTerm ∈ XALL := xall 572 (by decide +kernel) (by decide +kernel)
theorem ks_yX3_addWithoutTerm : Cond.selects RX3 yX3_addWithoutTerm yX3_addWithoutTerm ∈ XALL := xall 573 (by decide +kernel) (by decide +kernel)
theorem kc_yX3_addWithoutTerm : Cond.code yX3_addWithoutTerm cX3_addWithoutTerm 2 (some .int) ∈ XALL := xall 574 (by decide +kernel) (by decide +kernel)
theorem km_L_114 : Cond.methodLink RL 114 yL_build ∈ XALL := xall 575 (by decide +kernel) (by decide +kernel)
theorem kt_yL_build : Cond.static yL_build ∈ XALL := xall 576 (by decide +kernel) (by decide +kernel)
theorem kc_yL_build : Cond.code yL_build cL_build 5 (some (.object "DreamLedgerLaw$Sim")) ∈ XALL := xall 577 (by decide +kernel) (by decide +kernel)
theorem kl_L_16 : Cond.classLink RL 16 "DreamLedgerLaw$Sim" ∈ XALL := xall 578 (by decide +kernel) (by decide +kernel)
theorem kq_X4 : Cond.instantiable RX4 9 ∈ XALL := xall 579 (by decide +kernel) (by decide +kernel)
theorem kmN_L_104 : Cond.methodLinkNest RL 104 yX4_init RL ∈ NW := nwall 580 (by decide +kernel) rfl
theorem ki_yX4_init : Cond.instanceMethod yX4_init ∈ XALL := xall 581 (by decide +kernel) (by decide +kernel)
theorem kc_yX4_init : Cond.code yX4_init cX4_init 1 none ∈ XALL := xall 582 (by decide +kernel) (by decide +kernel)
theorem km_X4_1 : Cond.methodLink RX4 1 objectInit ∈ XALL := xall 583 (by decide +kernel) (by decide +kernel)
theorem kl_X4_24 : Cond.classLink RX4 24 "[I" ∈ XALL := xall 584 (by decide +kernel) (by decide +kernel)
theorem kao_int : Cond.arrayOver (.array .int) ∈ lw_tbl := List.mem_append_right _ (List.mem_of_getElem? (i := 585) (by decide +kernel))
theorem kf_X4_29 : Cond.fieldLink RX4 29 "DreamLedgerLaw$Sim" "tags" "I" ∈ XALL := xall 586 (by decide +kernel) (by decide +kernel)
theorem kf_L_15 : Cond.fieldLink RL 15 "DreamLedgerLaw$Sim" "tags" "I" ∈ XALL := xall 587 (by decide +kernel) (by decide +kernel)
theorem kf_L_42 : Cond.fieldLink RL 42 "DreamLedgerLaw$Sim" "dreams" "I" ∈ XALL := xall 588 (by decide +kernel) (by decide +kernel)
theorem kf_X4_40 : Cond.fieldLink RX4 40 "DreamLedgerLaw$Sim" "dreams" "I" ∈ XALL := xall 589 (by decide +kernel) (by decide +kernel)
theorem kf_L_82 : Cond.fieldLink RL 82 "DreamLedgerLaw$Sim" "terms" "I" ∈ XALL := xall 590 (by decide +kernel) (by decide +kernel)
theorem kf_X4_37 : Cond.fieldLink RX4 37 "DreamLedgerLaw$Sim" "terms" "I" ∈ XALL := xall 591 (by decide +kernel) (by decide +kernel)
theorem kf_L_55 : Cond.fieldLink RL 55 "DreamLedgerLaw$Sim" "nights" "I" ∈ XALL := xall 592 (by decide +kernel) (by decide +kernel)
theorem kf_X4_62 : Cond.fieldLink RX4 62 "DreamLedgerLaw$Sim" "nights" "I" ∈ XALL := xall 593 (by decide +kernel) (by decide +kernel)
theorem kf_X4_7 : Cond.fieldLink RX4 7 "DreamLedgerLaw$Sim" "parent" "[I" ∈ XALL := xall 594 (by decide +kernel) (by decide +kernel)
theorem kf_L_21 : Cond.fieldLink RL 21 "DreamLedgerLaw$Sim" "parent" "[I" ∈ XALL := xall 595 (by decide +kernel) (by decide +kernel)
theorem kf_X4_15 : Cond.fieldLink RX4 15 "DreamLedgerLaw$Sim" "own" "[[Z" ∈ XALL := xall 596 (by decide +kernel) (by decide +kernel)
theorem kf_L_45 : Cond.fieldLink RL 45 "DreamLedgerLaw$Sim" "own" "[[Z" ∈ XALL := xall 597 (by decide +kernel) (by decide +kernel)
theorem kf_X4_18 : Cond.fieldLink RX4 18 "DreamLedgerLaw$Sim" "vivid" "[I" ∈ XALL := xall 598 (by decide +kernel) (by decide +kernel)
theorem kf_L_49 : Cond.fieldLink RL 49 "DreamLedgerLaw$Sim" "vivid" "[I" ∈ XALL := xall 599 (by decide +kernel) (by decide +kernel)
theorem kf_X4_21 : Cond.fieldLink RX4 21 "DreamLedgerLaw$Sim" "night" "[I" ∈ XALL := xall 600 (by decide +kernel) (by decide +kernel)
theorem kf_L_52 : Cond.fieldLink RL 52 "DreamLedgerLaw$Sim" "night" "[I" ∈ XALL := xall 601 (by decide +kernel) (by decide +kernel)
theorem kf_X4_25 : Cond.fieldLink RX4 25 "DreamLedgerLaw$Sim" "term" "[[I" ∈ XALL := xall 602 (by decide +kernel) (by decide +kernel)
theorem kf_L_88 : Cond.fieldLink RL 88 "DreamLedgerLaw$Sim" "term" "[[I" ∈ XALL := xall 603 (by decide +kernel) (by decide +kernel)
theorem ks_yX3_requireTag : Cond.selects RX3 yX3_requireTag yX3_requireTag ∈ XALL := xsel 0 (by decide +kernel) rfl
theorem ks_yX3_requireParent : Cond.selects RX3 yX3_requireParent yX3_requireParent ∈ XALL := xsel 2 (by decide +kernel) rfl
theorem ks_yX1_countAbove : Cond.selects RX1 yX1_countAbove yX1_countAbove ∈ XALL := xsel 3 (by decide +kernel) rfl
theorem ks_yX1_countBelow : Cond.selects RX1 yX1_countBelow yX1_countBelow ∈ XALL := xsel 4 (by decide +kernel) rfl
theorem ks_yX1_standsBelow : Cond.selects RX1 yX1_standsBelow yX1_standsBelow ∈ XALL := xsel 5 (by decide +kernel) rfl
theorem ks_yX1_lowestOf : Cond.selects RX1 yX1_lowestOf yX1_lowestOf ∈ XALL := xsel 6 (by decide +kernel) rfl
theorem ks_yX3_dreamsHaving : Cond.selects RX3 yX3_dreamsHaving yX3_dreamsHaving ∈ XALL := xsel 7 (by decide +kernel) rfl
theorem ks_yX3_requireDream : Cond.selects RX3 yX3_requireDream yX3_requireDream ∈ XALL := xsel 8 (by decide +kernel) rfl
theorem ks_yX3_requireTerm : Cond.selects RX3 yX3_requireTerm yX3_requireTerm ∈ XALL := xsel 9 (by decide +kernel) rfl
theorem ks_yX3_tagsSharedBy : Cond.selects RX3 yX3_tagsSharedBy yX3_tagsSharedBy ∈ XALL := xsel 10 (by decide +kernel) rfl
theorem ks_yX3_smallestCover : Cond.selects RX3 yX3_smallestCover yX3_smallestCover ∈ XALL := xsel 11 (by decide +kernel) rfl
theorem ks_yX0_smallestOf : Cond.selects RX0 yX0_smallestOf yX0_smallestOf ∈ XALL := xsel 12 (by decide +kernel) rfl
theorem ks_yX3_countFadedAfter : Cond.selects RX3 yX3_countFadedAfter yX3_countFadedAfter ∈ XALL := xsel 13 (by decide +kernel) rfl
theorem ks_yX3_vividnessAfter : Cond.selects RX3 yX3_vividnessAfter yX3_vividnessAfter ∈ XALL := xsel 14 (by decide +kernel) rfl
theorem ks_yX3_ownTagsOfLatest : Cond.selects RX3 yX3_ownTagsOfLatest yX3_ownTagsOfLatest ∈ XALL := xsel 15 (by decide +kernel) rfl
theorem ks_yX1_grow : Cond.selects RX1 yX1_grow yX1_grow ∈ XALL := xsel 16 (by decide +kernel) rfl
theorem ks_yX1_hang : Cond.selects RX1 yX1_hang yX1_hang ∈ XALL := xsel 17 (by decide +kernel) rfl
theorem ks_yX1_lineFrom : Cond.selects RX1 yX1_lineFrom yX1_lineFrom ∈ XALL := xsel 18 (by decide +kernel) rfl
theorem ks_yX3_requirePlaceUnder : Cond.selects RX3 yX3_requirePlaceUnder yX3_requirePlaceUnder ∈ XALL := xsel 19 (by decide +kernel) rfl
theorem ks_yX1_canHang : Cond.selects RX1 yX1_canHang yX1_canHang ∈ XALL := xsel 20 (by decide +kernel) rfl
theorem ks_yX3_moveTag : Cond.selects RX3 yX3_moveTag yX3_moveTag ∈ XALL := xsel 21 (by decide +kernel) rfl
theorem ks_yX1_linesOf : Cond.selects RX1 yX1_linesOf yX1_linesOf ∈ XALL := xsel 22 (by decide +kernel) rfl
theorem ks_yX3_rematchTerms : Cond.selects RX3 yX3_rematchTerms yX3_rematchTerms ∈ XALL := xsel 23 (by decide +kernel) rfl
theorem ks_yX3_allDreams : Cond.selects RX3 yX3_allDreams yX3_allDreams ∈ XALL := xsel 24 (by decide +kernel) rfl
theorem ks_yX2_combine : Cond.selects RX2 yX2_combine yX2_combine ∈ XALL := xsel 25 (by decide +kernel) rfl
theorem ks_yX2_matchedAhead : Cond.selects RX2 yX2_matchedAhead yX2_matchedAhead ∈ XALL := xsel 26 (by decide +kernel) rfl
theorem ks_yX3_setOwnTags : Cond.selects RX3 yX3_setOwnTags yX3_setOwnTags ∈ XALL := xsel 27 (by decide +kernel) rfl
theorem ks_yX3_requireNights : Cond.selects RX3 yX3_requireNights yX3_requireNights ∈ XALL := xsel 28 (by decide +kernel) rfl
theorem ks_yX3_requireRoomForTerm : Cond.selects RX3 yX3_requireRoomForTerm yX3_requireRoomForTerm ∈ XALL := xsel 29 (by decide +kernel) rfl
theorem ks_yX3_addTerm : Cond.selects RX3 yX3_addTerm yX3_addTerm ∈ XALL := xsel 30 (by decide +kernel) rfl
theorem ks_yX2_add : Cond.selects RX2 yX2_add yX2_add ∈ XALL := xsel 31 (by decide +kernel) rfl
end
section
/-! THE STATE: rows of ints by a number; a scalar is a row's place 0 -/
abbrev St : Type := Nat → Nat → Int32
def up (S : St) (k j : Nat) (v : Int32) : St := fun a => if a = k then upd (S a) j v else S a
def ld (S : St) (k n : Nat) (x : Int32) : Option Int32 := if x < 0 ∨ n ≤ x.toNatClampNeg then none else some (S k x.toNatClampNeg)
def sto (S : St) (k n : Nat) (x v : Int32) : Option St := if x < 0 ∨ n ≤ x.toNatClampNeg then none else some (up S k x.toNatClampNeg v)
def zg (v : Int32) : Option Int32 := if v = 0 ∨ v = 1 then some v else none
theorem ld_some {S : St} {k n : Nat} {x v : Int32} (h : ld S k n x = some v) : vp_in x n ∧ S k x.toNatClampNeg = v := by
  unfold ld at h
  split at h
  · cases h
  · rename_i h1
    exact ⟨h1, Option.some.inj h⟩
theorem sto_some {S S' : St} {k n : Nat} {x v : Int32} (h : sto S k n x v = some S') : vp_in x n ∧ up S k x.toNatClampNeg v = S' := by
  unfold sto at h
  split at h
  · cases h
  · rename_i h1
    exact ⟨h1, Option.some.inj h⟩
theorem zg_some {v w : Int32} (h : zg v = some w) : v = w ∧ (w = 0 ∨ w = 1) := by
  unfold zg at h
  split at h
  · rename_i h1
    cases h
    exact ⟨rfl, h1⟩
  · cases h
theorem zg_nar {w : Int32} (h : w = 0 ∨ w = 1) : narrow .boolean (.int w) = .int w := by
  rcases h with rfl | rfl <;> rfl
theorem bnd {α β : Type} {x : Option α} {f : α → Option β} {r : β} (h : x.bind f = some r) : ∃ a, x = some a ∧ f a = some r := Option.bind_eq_some_iff.mp h
theorem ift {α : Type} {c : Prop} [Decidable c] {a b : α} {r : α} (hc : c) (h : (if c then a else b) = r) : a = r := by rw [if_pos hc] at h; exact h
theorem iff_ {α : Type} {c : Prop} [Decidable c] {a b : α} {r : α} (hc : ¬ c) (h : (if c then a else b) = r) : b = r := by rw [if_neg hc] at h; exact h
/-! THE WORLDS -/
def xw (cI : ClassId) (q : Nat → Nat) (S : St) : va_W :=
  [(q 0, .inr (3, [.ref (q 1), .ref (q 2), .ref (q 3), .ref (q 4), .ref (q 5), .ref (q 6), .ref (q 7), .int (S 12 0), .int (S 13 0)])),
   (q 1, .inr (1, [.ref (q 8), .ref (q 9), .int (S 14 0)])),
   (q 2, .inr (2, [.ref (q 10), .ref (q 11), .ref (q 12), .ref (q 13), .int (S 15 0)])),
   (q 3, .inr (0, [.ref (q 14), .ref (q 15)])),
   (q 4, .inl (cI, 24, .inl (S 0))), (q 5, .inl (cI, 24, .inl (S 1))), (q 6, .inl (cI, 24, .inl (S 2))), (q 7, .inl (cI, 24, .inl (S 3))),
   (q 8, .inl (cI, 16, .inl (S 4))), (q 9, .inl (cI, 16, .inl (S 5))), (q 10, .inl (cI, 20, .inl (S 6))), (q 11, .inl (cI, 20, .inl (S 7))),
   (q 12, .inl (cI, 20, .inl (S 8))), (q 13, .inl (cI, 20, .inl (S 9))), (q 14, .inl (cI, 16, .inl (S 10))), (q 15, .inl (cI, 17, .inl (S 11)))]
theorem xw_adr {cI : ClassId} {q : Nat → Nat} (S S' : St) : (xw cI q S).map Prod.fst = (xw cI q S').map Prod.fst := rfl
theorem inW0 : ∀ w ∈ u_ws RX0 TX0 2, w ∈ XALL := fun w h => List.mem_filter.mpr ⟨(by decide +kernel : ∀ w ∈ u_ws RX0 TX0 2, w ∈ lw_tbl) w h, (by decide +kernel : ∀ w ∈ u_ws RX0 TX0 2, goodWord w = true) w h⟩
theorem inW1 : ∀ w ∈ u_ws RX1 TX1 3, w ∈ XALL := fun w h => List.mem_filter.mpr ⟨(by decide +kernel : ∀ w ∈ u_ws RX1 TX1 3, w ∈ lw_tbl) w h, (by decide +kernel : ∀ w ∈ u_ws RX1 TX1 3, goodWord w = true) w h⟩
theorem inW2 : ∀ w ∈ u_ws RX2 TX2 5, w ∈ XALL := fun w h => List.mem_filter.mpr ⟨(by decide +kernel : ∀ w ∈ u_ws RX2 TX2 5, w ∈ lw_tbl) w h, (by decide +kernel : ∀ w ∈ u_ws RX2 TX2 5, goodWord w = true) w h⟩
theorem inW3 : ∀ w ∈ u_ws RX3 TX3 9, w ∈ XALL := fun w h => List.mem_filter.mpr ⟨(by decide +kernel : ∀ w ∈ u_ws RX3 TX3 9, w ∈ lw_tbl) w h, (by decide +kernel : ∀ w ∈ u_ws RX3 TX3 9, goodWord w = true) w h⟩
theorem inW4 : ∀ w ∈ u_ws RX4 TX4 9, w ∈ XALL := fun w h => List.mem_filter.mpr ⟨(by decide +kernel : ∀ w ∈ u_ws RX4 TX4 9, w ∈ lw_tbl) w h, (by decide +kernel : ∀ w ∈ u_ws RX4 TX4 9, goodWord w = true) w h⟩
/-! WHAT TRAVELS BESIDE THE WORLD: words of the nest, the texts -/
def xEnv (U : State) : Prop := ∀ w ∈ NW, va_Nw w U
theorem nw_warm {w : Cond} (hw : nwOK w = true) {s U : State} (hW : s.WarmedH U.vm) (h : va_Nw w s) : va_Nw w U := by
  cases w <;> first | (exact va_Nw.warmF hW h) | (exact va_Nw.warmM hW h) | (exact va_Nw.warmC hW h) | (exact va_Nw.warmD hW h) | (exact absurd hw (by simp [nwOK]))
theorem xEnv.warm {s U : State} (hW : s.WarmedH U.vm) (h : xEnv s) : xEnv U := fun w hw => nw_warm (List.mem_filter.mp hw).2 hW (h w hw)
theorem nw_on {w : Cond} (hw : nwOK w = true) : w.onTables = true := by
  cases w <;> first | rfl | (exact absurd hw (by simp [nwOK]))
theorem xEnv.same {s U : State} (hW : s.vm = U.vm) (h : xEnv s) : xEnv U := fun w hw => va_Nw.same (nw_on (List.mem_filter.mp hw).2) hW (h w hw)
def gE (D : va_G) (cI : ClassId) (s : State) : Prop := va_K D vwCl [(cI, .int)] s ∧ xEnv s
def gPre (D : va_G) (cI : ClassId) (ws : va_W) (sz : Nat) (U : State) : Prop :=
  U.heap.size = sz ∧ va_P D vwCl ws U.heap ∧ va_K D vwCl [(cI, .int)] U ∧ va_D (fun _ => True) ws ∧ xEnv U
def gW (D : va_G) (ws0 ws : va_W) (s : State) (H : Heap) (locs : List Loc) : Prop :=
  va_P D vwCl ws H ∧ va_D (va_A ws0 s.heap.size) ws ∧ va_S (va_A ws0 s.heap.size) s.heap H locs
theorem gPre_blind {D : va_G} {cI : ClassId} {ws : va_W} {sz : Nat} {av : List Value} : FrameBlind (va_Pc av (gPre D cI ws sz)) := by
  intro a U g mk h
  obtain ⟨h0, h1, h2, h3, h4, h5⟩ := h
  exact ⟨h0, h1, h2, va_K.moved (u := U) (U := U.calling g mk a) (Vm.Alike.refl U.vm) h3, h4, xEnv.same (s := U) (U := U.calling g mk a) rfl h5⟩
theorem g_start {D : va_G} {cI : ClassId} {ws : va_W} {sz : Nat} {s : State} (h : gPre D cI ws sz s) : gE D cI s ∧ gW D ws ws s s.heap [] ∧ s.heap.size = sz :=
  ⟨⟨h.2.2.1, h.2.2.2.2⟩, ⟨h.2.1, h.2.2.2.1.self, va_S.rf⟩, h.1⟩
theorem adr_get {ws ws' : va_W} (h : ws.map Prod.fst = ws'.map Prod.fst) {k : Nat} {a : Nat} {e : va_E} (hk : ws'[k]? = some (a, e)) : ∃ e', ws[k]? = some (a, e') := by
  have h1 : (ws.map Prod.fst)[k]? = some a := by rw [h, List.getElem?_map, hk]; rfl
  rw [List.getElem?_map] at h1
  cases h2 : ws[k]? with
  | none => rw [h2] at h1; cases h1
  | some x =>
    rw [h2] at h1
    obtain ⟨a', e'⟩ := x
    have : a' = a := Option.some.inj h1
    subst this
    exact ⟨e', rfl⟩
theorem gD {A : Nat → Prop} {ws ws' : va_W} (h : ws.map Prod.fst = ws'.map Prod.fst) (hD : va_D A ws) : va_D A ws' := by
  refine ⟨fun i j x y hi hj hxy => ?_, fun k x hk => ?_⟩
  · obtain ⟨a, e⟩ := x
    obtain ⟨b, f⟩ := y
    obtain ⟨e', h1⟩ := adr_get h hi
    obtain ⟨f', h2⟩ := adr_get h hj
    exact hD.1 i j _ _ h1 h2 hxy
  · obtain ⟨a, e⟩ := x
    obtain ⟨e', h1⟩ := adr_get h hk
    exact hD.2 k (a, e') h1
theorem gF {A : Nat → Prop} {ws : va_W} {H0 H : Heap} {locs : List Loc} (hD : va_D A ws) (hS : va_S A H0 H locs) (hA : ∀ q, H0.size ≤ q → A q) : ∀ q, va_A ws H.size q → A q := by
  intro q h
  rcases h with ⟨k, e, h⟩ | h
  · exact hD.2 k (q, e) h
  · exact hA q (Nat.le_trans hS.1 h)
theorem gW.A {D : va_G} {ws0 ws : va_W} {s : State} {H : Heap} {locs : List Loc} (h : gW D ws0 ws s H locs) : ∀ q, va_A ws H.size q → va_A ws0 s.heap.size q :=
  gF h.2.1 h.2.2 (fun _ h => Or.inr h)
theorem gW.F {D : va_G} {ws0 ws : va_W} {s t : State} {H : Heap} {locs : List Loc} (h : gW D ws0 ws s H locs) (ht : t.heap = H) : va_F (va_A ws0 s.heap.size) s t := h.2.2.F ht
theorem gPre_of {D : va_G} {cI : ClassId} {ws0 ws : va_W} {s U : State} {H : Heap} {locs : List Loc} (E : gE D cI s) (h : gW D ws0 ws s H locs) (hU : U.heap = H) (hW : s.WarmedH U.vm) : gPre D cI ws H.size U :=
  ⟨by rw [hU], by rw [hU]; exact h.1, va_K.moved hW.alike E.1, h.2.1.weaken (fun _ _ _ _ => trivial), xEnv.warm hW E.2⟩
/-- what stands throughout a method's walk -/
def Ctx (p : Program) (s : State) (m : MethodId) (args : Array Value) (meth : Method) (c : Code) (cc : ByteArray) (nL : Nat) (own : String) (ret : Option FieldType) : Prop :=
  p.tables.exec = Jvm.exec ∧ c.code = cc ∧ c.maxLocals = nL ∧ s.vm.findClass own = some m.cls ∧ (∀ w ∈ XALL, w.before args s = true) ∧ meth.sig.returnType = ret ∧ meth.locks = false
theorem Ctx.fix {p : Program} {s : State} {m : MethodId} {args : Array Value} {meth : Method} {c : Code} {cc : ByteArray} {nL : Nat} {own : String} {ret : Option FieldType} (h : Ctx p s m args meth c cc nL own ret) : CallFix p m c cc nL s args XALL own := ⟨h.1, h.2.1, h.2.2.1, h.2.2.2.1, h.2.2.2.2.1⟩
theorem Ctx.of {p : Program} {l : Launch} {y : MethodName} {rm : Room} {cc : ByteArray} {maxL : Nat} {ret : Option FieldType} {e : Env} {s s₁ : State} {m : MethodId} {args : Array Value} {below : List Frame} {meth : Method} {c : Code} {w : Cond} {own : String}
    (B : BodyLoose p l y (headSpec (w :: XALL) rm) cc maxL ret e s m args below meth c s₁) (hml : c.maxLocals = maxL) (ho : own = y.cls) : Ctx p s m args meth c cc maxL own ret :=
  ⟨B.exec, B.bytes, hml, by rw [ho]; exact findClass_of_methodNamed B.named, fun w h => atoms_spec (ws := _ :: XALL) B.pre w (List.mem_cons_of_mem _ h), B.returns, B.notSynchronized⟩
/-- a method that can be called: its words -/
def Fct (y : MethodName) (bytes : ByteArray) (maxL : Nat) (ret : Option FieldType) (n : Nat) : Prop :=
  Cond.code y bytes maxL ret ∈ XALL ∧ Cond.initialized y.cls ∈ XALL ∧ y.cls ≠ "java/lang/invoke/MethodHandle" ∧ y.cls ≠ "java/lang/invoke/VarHandle" ∧ (parseMethodDescriptor y.desc).map (fun d => d.parameters.length) = some n
def FctV (y : MethodName) (bytes : ByteArray) (maxL : Nat) (ret : Option FieldType) (n : Nat) : Prop :=
  Fct y bytes maxL ret n ∧ Cond.instanceMethod y ∈ XALL ∧ Cond.selects y.cls y y ∈ XALL
def FctS (y : MethodName) (bytes : ByteArray) (maxL : Nat) (ret : Option FieldType) (n : Nat) : Prop :=
  Fct y bytes maxL ret n ∧ Cond.static y ∈ XALL
section BASE
variable {p : Program} {l : Launch} {e : Env} {R : Room} {s : State} {m : MethodId} {args : Array Value} {below : List Frame} {meth : Method} {c : Code} {H : Heap} {locs : List Loc} {cells slots : Nat} {Q : State → Prop}
variable {cc bytes : ByteArray} {nL maxL : Nat} {own : String} {ret rt : Option FieldType} {D : va_G} {cI : ClassId} {pc : Nat} {ls : Array Slot} {rest st0 : List Value}
theorem topi_b {x y : Int32} (h : some x = some y) (k : W p l e R s m args below meth c H locs cells slots Q (F0 m pc ls (.int y :: rest))) : W p l e R s m args below meth c H locs cells slots Q (F0 m pc ls (.int x :: rest)) := by cases h; exact k
theorem topl_b {x y : Int64} (h : some x = some y) (k : W p l e R s m args below meth c H locs cells slots Q (F0 m pc ls (.long y :: rest))) : W p l e R s m args below meth c H locs cells slots Q (F0 m pc ls (.long x :: rest)) := by cases h; exact k
theorem inc1 {x y : Int32} (h : some (x + 1) = some y) : x + Int32.ofInt 1 = y := Option.some.inj h
theorem fct_B {y : MethodName} {n index : Nat} {rm : Room} (C : Ctx p s m args meth c cc nL own ret) (F : Fct y bytes maxL rt n) (hk : Cond.methodLink own index y ∈ XALL) (hR : rm.frames + 1 ≤ R.frames ∧ 8 + (maxL + 11) + rm.locals ≤ R.locals) :
    CallB R s args own index y bytes maxL rt (Cond.code y bytes maxL rt :: XALL) rm rm.cells rm.slots n :=
  callB_of n C.2.2.2.2.1 (XALL_in F.1) rfl rfl rfl (C.2.2.2.2.1 _ F.2.1) (C.2.2.2.2.1 _ hk) F.2.2 hR
theorem fct_N {y : MethodName} {n index : Nat} {rm : Room} {host : String} (C : Ctx p s m args meth c cc nL own ret) (E : gE D cI s) (F : Fct y bytes maxL rt n) (hk : Cond.methodLinkNest own index y host ∈ NW) (hR : rm.frames + 1 ≤ R.frames ∧ 8 + (maxL + 11) + rm.locals ≤ R.locals) :
    va_CN R s args own index y host bytes maxL rt (Cond.code y bytes maxL rt :: XALL) rm rm.cells rm.slots n :=
  va_cnB n C.2.2.2.2.1 (XALL_in F.1) rfl rfl rfl (E.2 _ hk) (C.2.2.2.2.1 _ F.2.1) F.2.2 hR
variable {wf : St → va_W} {S : St} {ws0 : va_W} {b : Nat} {As : List Value} {rm : Room} {y : MethodName} {n index : Nat} {Qc : Array Value → State → Outcome → State → Prop} {XC : String → State → State → Prop} {free : Addr → Prop} {host : String}
/-- the run of a method of the own class (private or public), of an object of the world -/
theorem g_runV (C : Ctx p s m args meth c cc nL own ret) (E : gE D cI s) {ws : va_W} (hw : gW D ws0 ws s H locs) (F : FctV y bytes maxL rt n) (hM : Met l y (Cond.code y bytes maxL rt :: XALL) rm (va_Pc (.ref b :: As) (gPre D cI ws H.size)) Qc rm.cells rm.slots free) (hk : Cond.methodLink own index y ∈ XALL)
    (q0 : Nat) {ci : Nat} {fs : List Value} {T : u_T} {N : Nat} (he : ws[q0]? = some (b, .inr (ci, fs))) (hc : vwCl[ci]? = some (y.cls, T, N)) (hn : As.length = n) (hsize : ls.size = nL) (hst : st0 = As.reverse ++ .ref b :: rest) (hr8 : (rest.map fun v => v.category).sum ≤ 8) (hR : rm.frames + 1 ≤ R.frames ∧ 8 + (maxL + 11) + rm.locals ≤ R.locals) (hf : cells + rm.cells ≤ R.cells ∧ slots + rm.slots ≤ R.slots) (hdg : decode cc pc = .ok (.invokevirtual index, 3)) :
    va_Run p l e R s m args below meth c H locs cells slots rm.cells rm.slots (F0 m pc ls st0) rest (Qc (Value.ref b :: As).toArray) free :=
  va_runV C.fix hM ⟨fct_B C F.1 hk hR, C.2.2.2.2.1 _ F.2.1, C.2.2.2.2.1 _ F.2.2⟩ ⟨gPre_blind, va_recv (q := (y.cls, T, N)) E.1 hw.1 hc he, fun U hU hW => ⟨rfl, gPre_of E hw hU hW⟩⟩ rfl hn hsize hst (lv_room hr8) hdg hf
theorem g_runVN (C : Ctx p s m args meth c cc nL own ret) (E : gE D cI s) {ws : va_W} (hw : gW D ws0 ws s H locs) (F : FctV y bytes maxL rt n) (hM : Met l y (Cond.code y bytes maxL rt :: XALL) rm (va_Pc (.ref b :: As) (gPre D cI ws H.size)) Qc rm.cells rm.slots free) (hk : Cond.methodLinkNest own index y host ∈ NW)
    (q0 : Nat) {ci : Nat} {fs : List Value} {T : u_T} {N : Nat} (he : ws[q0]? = some (b, .inr (ci, fs))) (hc : vwCl[ci]? = some (y.cls, T, N)) (hn : As.length = n) (hsize : ls.size = nL) (hst : st0 = As.reverse ++ .ref b :: rest) (hr8 : (rest.map fun v => v.category).sum ≤ 8) (hR : rm.frames + 1 ≤ R.frames ∧ 8 + (maxL + 11) + rm.locals ≤ R.locals) (hf : cells + rm.cells ≤ R.cells ∧ slots + rm.slots ≤ R.slots) (hdg : decode cc pc = .ok (.invokevirtual index, 3)) :
    va_Run p l e R s m args below meth c H locs cells slots rm.cells rm.slots (F0 m pc ls st0) rest (Qc (Value.ref b :: As).toArray) free :=
  va_runVN C.fix hM ⟨fct_N C E F.1 hk hR, C.2.2.2.2.1 _ F.2.1, C.2.2.2.2.1 _ F.2.2⟩ ⟨gPre_blind, va_recv (q := (y.cls, T, N)) E.1 hw.1 hc he, fun U hU hW => ⟨rfl, gPre_of E hw hU hW⟩⟩ rfl hn hsize hst (lv_room hr8) hdg hf
/-- a static method that looks at the world -/
theorem g_runS (C : Ctx p s m args meth c cc nL own ret) (E : gE D cI s) {ws : va_W} (hw : gW D ws0 ws s H locs) (F : FctS y bytes maxL rt n) (hM : Met l y (Cond.code y bytes maxL rt :: XALL) rm (va_Pc As (gPre D cI ws H.size)) Qc rm.cells rm.slots free) (hk : Cond.methodLink own index y ∈ XALL)
    (hn : As.length = n) (hsize : ls.size = nL) (hst : st0 = As.reverse ++ rest) (hr8 : (rest.map fun v => v.category).sum ≤ 8) (hR : rm.frames + 1 ≤ R.frames ∧ 8 + (maxL + 11) + rm.locals ≤ R.locals) (hf : cells + rm.cells ≤ R.cells ∧ slots + rm.slots ≤ R.slots) (hdg : decode cc pc = .ok (.invokestatic index, 3)) :
    va_Run p l e R s m args below meth c H locs cells slots rm.cells rm.slots (F0 m pc ls st0) rest (Qc As.toArray) free :=
  va_runS C.fix hM ⟨fct_B C F.1 hk hR, C.2.2.2.2.1 _ F.2⟩ ⟨gPre_blind, fun U hU hW => ⟨rfl, gPre_of E hw hU hW⟩⟩ rfl hn hsize hst (lv_room hr8) hdg hf
/-- a static method without a world -/
theorem tru_blind {av : List Value} : FrameBlind (va_Pc av (fun _ => True)) := fun _ _ _ _ h => h
theorem g_run0 (C : Ctx p s m args meth c cc nL own ret) (F : FctS y bytes maxL rt n) (hM : Met l y (Cond.code y bytes maxL rt :: XALL) rm (va_Pc As (fun _ => True)) Qc rm.cells rm.slots free) (hk : Cond.methodLink own index y ∈ XALL)
    (hn : As.length = n) (hsize : ls.size = nL) (hst : st0 = As.reverse ++ rest) (hr8 : (rest.map fun v => v.category).sum ≤ 8) (hR : rm.frames + 1 ≤ R.frames ∧ 8 + (maxL + 11) + rm.locals ≤ R.locals) (hf : cells + rm.cells ≤ R.cells ∧ slots + rm.slots ≤ R.slots) (hdg : decode cc pc = .ok (.invokestatic index, 3)) :
    va_Run p l e R s m args below meth c H locs cells slots rm.cells rm.slots (F0 m pc ls st0) rest (Qc As.toArray) free :=
  va_runS C.fix hM ⟨fct_B C F.1 hk hR, C.2.2.2.2.1 _ F.2⟩ ⟨tru_blind, fun U hU hW => ⟨rfl, trivial⟩⟩ rfl hn hsize hst (lv_room hr8) hdg hf
theorem g_run0N (C : Ctx p s m args meth c cc nL own ret) (E : gE D cI s) (F : FctS y bytes maxL rt n) (hM : Met l y (Cond.code y bytes maxL rt :: XALL) rm (va_Pc As (fun _ => True)) Qc rm.cells rm.slots free) (hk : Cond.methodLinkNest own index y host ∈ NW)
    (hn : As.length = n) (hsize : ls.size = nL) (hst : st0 = As.reverse ++ rest) (hr8 : (rest.map fun v => v.category).sum ≤ 8) (hR : rm.frames + 1 ≤ R.frames ∧ 8 + (maxL + 11) + rm.locals ≤ R.locals) (hf : cells + rm.cells ≤ R.cells ∧ slots + rm.slots ≤ R.slots) (hdg : decode cc pc = .ok (.invokestatic index, 3)) :
    va_Run p l e R s m args below meth c H locs cells slots rm.cells rm.slots (F0 m pc ls st0) rest (Qc As.toArray) free :=
  va_runSN C.fix hM ⟨fct_N C E F.1 hk hR, C.2.2.2.2.1 _ F.2, trivial⟩ ⟨tru_blind, fun U hU hW => ⟨rfl, trivial⟩⟩ rfl hn hsize hst (lv_room hr8) hdg hf
/-! behind a call -/
theorem gW_call {wf : St → va_W} {S S1 : St} {H1 : Heap} {locs1 : List Loc} {t : State} (ha : ∀ S S', (wf S).map Prod.fst = (wf S').map Prod.fst) (hw : gW D ws0 (wf S) s H locs) (ht : t.heap = H1) (hB : va_P D vwCl (wf S1) t.heap) (hS : va_S (va_A ws0 s.heap.size) s.heap H1 locs1) : gW D ws0 (wf S1) s H1 locs1 :=
  ⟨by rw [← ht]; exact hB, gD (ha S S1) hw.2.1, hS⟩
theorem gW_keep {ws : va_W} {H1 : Heap} {locs1 : List Loc} (hw : gW D ws0 ws s H locs) (hk : ∀ q : Nat, q < H.size → ¬ False → H1[q]? = H[q]?) (hS : va_S (va_A ws0 s.heap.size) s.heap H1 locs1) : gW D ws0 ws s H1 locs1 :=
  ⟨hw.1.kept (fun k q hq => hk q.1 (hw.1 k q hq).lt (fun h => h)), hw.2.1, hS⟩
variable {a : Array Value} {mc ms : Nat}
theorem g_ci (ha : ∀ S S', (wf S).map Prod.fst = (wf S').map Prod.fst) (hw : gW D ws0 (wf S) s H locs) {post : Int32 → St → Prop} (hr : va_Run p l e R s m args below meth c H locs cells slots mc ms (F0 m pc ls st0) rest (va_Qi post (fun u t => va_P D vwCl (wf u) t.heap) (va_A (wf S) H.size) a) (va_A (wf S) H.size))
    (kk : ∀ (r : Int32) (u : St), post r u → ∀ (H : Heap) (locs : List Loc), gW D ws0 (wf u) s H locs → W p l e R s m args below meth c H locs (cells + mc) (slots + ms) Q (F0 m (pc + 3) ls (.int r :: rest))) : W p l e R s m args below meth c H locs cells slots Q (F0 m pc ls st0) :=
  va_calli hr hw.2.2 (fun q _ h => hw.A q h) hw.A (fun r u t H1 locs1 ht _ hp hB _ _ hS => kk r u hp H1 locs1 (gW_call ha hw ht hB hS))
theorem g_cl (ha : ∀ S S', (wf S).map Prod.fst = (wf S').map Prod.fst) (hw : gW D ws0 (wf S) s H locs) {post : Int64 → St → Prop} (hr : va_Run p l e R s m args below meth c H locs cells slots mc ms (F0 m pc ls st0) rest (va_Ql post (fun u t => va_P D vwCl (wf u) t.heap) (va_A (wf S) H.size) a) (va_A (wf S) H.size))
    (kk : ∀ (r : Int64) (u : St), post r u → ∀ (H : Heap) (locs : List Loc), gW D ws0 (wf u) s H locs → W p l e R s m args below meth c H locs (cells + mc) (slots + ms) Q (F0 m (pc + 3) ls (.long r :: rest))) : W p l e R s m args below meth c H locs cells slots Q (F0 m pc ls st0) :=
  va_calll hr hw.2.2 (fun q _ h => hw.A q h) hw.A (fun r u t H1 locs1 ht _ hp hB _ _ hS => kk r u hp H1 locs1 (gW_call ha hw ht hB hS))
theorem g_cv (ha : ∀ S S', (wf S).map Prod.fst = (wf S').map Prod.fst) (hw : gW D ws0 (wf S) s H locs) {post : St → Prop} (hr : va_Run p l e R s m args below meth c H locs cells slots mc ms (F0 m pc ls st0) rest (va_Qv post (fun u t => va_P D vwCl (wf u) t.heap) (va_A (wf S) H.size) a) (va_A (wf S) H.size))
    (kk : ∀ (u : St), post u → ∀ (H : Heap) (locs : List Loc), gW D ws0 (wf u) s H locs → W p l e R s m args below meth c H locs (cells + mc) (slots + ms) Q (F0 m (pc + 3) ls rest)) : W p l e R s m args below meth c H locs cells slots Q (F0 m pc ls st0) :=
  va_callv hr hw.2.2 (fun q _ h => hw.A q h) hw.A (fun u t H1 locs1 ht _ hp hB _ _ hS => kk u hp H1 locs1 (gW_call ha hw ht hB hS))
theorem g_ci0 {ws : va_W} (hw : gW D ws0 ws s H locs) {post : Int32 → Unit → Prop} (hr : va_Run p l e R s m args below meth c H locs cells slots mc ms (F0 m pc ls st0) rest (va_Qi post (fun _ _ => True) (fun _ => False) a) (fun _ => False))
    (kk : ∀ (r : Int32), post r () → ∀ (H : Heap) (locs : List Loc), gW D ws0 ws s H locs → W p l e R s m args below meth c H locs (cells + mc) (slots + ms) Q (F0 m (pc + 3) ls (.int r :: rest))) : W p l e R s m args below meth c H locs cells slots Q (F0 m pc ls st0) :=
  va_calli hr hw.2.2 (fun q _ h => h.elim) (fun q h => h.elim) (fun r u t H1 locs1 _ _ hp _ _ hk hS => kk r hp H1 locs1 (gW_keep hw hk hS))
theorem g_cl0 {ws : va_W} (hw : gW D ws0 ws s H locs) {post : Int64 → Unit → Prop} (hr : va_Run p l e R s m args below meth c H locs cells slots mc ms (F0 m pc ls st0) rest (va_Ql post (fun _ _ => True) (fun _ => False) a) (fun _ => False))
    (kk : ∀ (r : Int64), post r () → ∀ (H : Heap) (locs : List Loc), gW D ws0 ws s H locs → W p l e R s m args below meth c H locs (cells + mc) (slots + ms) Q (F0 m (pc + 3) ls (.long r :: rest))) : W p l e R s m args below meth c H locs cells slots Q (F0 m pc ls st0) :=
  va_calll hr hw.2.2 (fun q _ h => h.elim) (fun q h => h.elim) (fun r u t H1 locs1 _ _ hp _ _ hk hS => kk r hp H1 locs1 (gW_keep hw hk hS))
/-- the same in a walk that has no world: only 'va_S' with nothing of its own -/
def zS (s : State) (H : Heap) (locs : List Loc) : Prop := va_S (fun _ => False) s.heap H locs
theorem g_ci00 (hS : zS s H locs) {post : Int32 → Unit → Prop} (hr : va_Run p l e R s m args below meth c H locs cells slots mc ms (F0 m pc ls st0) rest (va_Qi post (fun _ _ => True) (fun _ => False) a) (fun _ => False))
    (kk : ∀ (r : Int32), post r () → ∀ (H : Heap) (locs : List Loc), zS s H locs → W p l e R s m args below meth c H locs (cells + mc) (slots + ms) Q (F0 m (pc + 3) ls (.int r :: rest))) : W p l e R s m args below meth c H locs cells slots Q (F0 m pc ls st0) :=
  va_calli hr hS (fun q _ h => h) (fun q h => h) (fun r u t H1 locs1 _ _ hp _ _ _ hS => kk r hp H1 locs1 hS)
theorem g_cl00 (hS : zS s H locs) {post : Int64 → Unit → Prop} (hr : va_Run p l e R s m args below meth c H locs cells slots mc ms (F0 m pc ls st0) rest (va_Ql post (fun _ _ => True) (fun _ => False) a) (fun _ => False))
    (kk : ∀ (r : Int64), post r () → ∀ (H : Heap) (locs : List Loc), zS s H locs → W p l e R s m args below meth c H locs (cells + mc) (slots + ms) Q (F0 m (pc + 3) ls (.long r :: rest))) : W p l e R s m args below meth c H locs cells slots Q (F0 m pc ls st0) :=
  va_calll hr hS (fun q _ h => h) (fun q h => h) (fun r u t H1 locs1 _ _ hp _ _ _ hS => kk r hp H1 locs1 hS)
/-! fields and rows of the world -/
theorem g_get (C : Ctx p s m args meth c cc nL own ret) (E : gE D cI s) {ws : va_W} (hw : gW D ws0 ws s H locs) {Cn : String} {T : u_T} {N ci : Nat} {b : Nat} (hin : ∀ w ∈ u_ws Cn T N, w ∈ XALL) (q0 : Nat) {fs : List Value} (he : ws[q0]? = some (b, .inr (ci, fs))) (hc : vwCl[ci]? = some (Cn, T, N)) (k : Nat) (hk : k < N)
    (hl : Cond.fieldLink own index (T k).1 (T k).2.1 (T k).2.2.1 ∈ XALL) {v : Value} (hv : fs[k]? = some v) (hdg : decode cc pc = .ok (.getfield index, 3)) (kk : W p l e R s m args below meth c H locs cells slots Q (F0 m (pc + 3) ls (v :: rest))) : W p l e R s m args below meth c H locs cells slots Q (F0 m pc ls (.ref b :: rest)) :=
  va_get C.1 C.2.1 C.2.2.2.2.1 hin C.2.2.2.1 E.1 hw.1 q0 he hc k hk (C.2.2.2.2.1 _ hl) (fun _ h => h) hv hdg kk
theorem g_getN (C : Ctx p s m args meth c cc nL own ret) (E : gE D cI s) {ws : va_W} (hw : gW D ws0 ws s H locs) {Cn : String} {T : u_T} {N ci : Nat} {b : Nat} (hin : ∀ w ∈ u_ws Cn T N, w ∈ XALL) (q0 : Nat) {fs : List Value} (he : ws[q0]? = some (b, .inr (ci, fs))) (hc : vwCl[ci]? = some (Cn, T, N)) (k : Nat) (hk : k < N)
    (hl : Cond.fieldLinkNest own index (T k).1 (T k).2.1 (T k).2.2.1 host ∈ NW) {v : Value} (hv : fs[k]? = some v) (hdg : decode cc pc = .ok (.getfield index, 3)) (kk : W p l e R s m args below meth c H locs cells slots Q (F0 m (pc + 3) ls (v :: rest))) : W p l e R s m args below meth c H locs cells slots Q (F0 m pc ls (.ref b :: rest)) :=
  va_getN C.1 C.2.1 C.2.2.2.2.1 hin C.2.2.2.1 E.1 hw.1 q0 he hc k hk (va_Nw.use (nw_on (List.mem_filter.mp hl).2) (E.2 _ hl)) (fun _ h => h) hv hdg kk
theorem g_put (C : Ctx p s m args meth c cc nL own ret) (E : gE D cI s) {ws ws' : va_W} (hw : gW D ws0 ws s H locs) {Cn : String} {T : u_T} {N ci : Nat} {b : Nat} (hin : ∀ w ∈ u_ws Cn T N, w ∈ XALL) (ty0 : Nat → FieldType) (hty : ∀ k, k < N → parseFieldDescriptor (T k).2.2.1 = some (ty0 k)) (hnm : ∀ a, a < N → ∀ b, b < N → a ≠ b → (T a).2.1 ≠ (T b).2.1) (q0 : Nat) {fs : List Value} (he : ws[q0]? = some (b, .inr (ci, fs))) (hc : vwCl[ci]? = some (Cn, T, N)) (k : Nat) (hk : k < N)
    (hl : Cond.fieldLink own index (T k).1 (T k).2.1 (T k).2.2.1 ∈ XALL) (hfin : (T k).2.2.2 = false) (hd : parseFieldDescriptor (T k).2.2.1 = some .int) {v : Int32} (hlen : k < fs.length) (hset : ws.set q0 (b, .inr (ci, fs.set k (.int v))) = ws') (hdg : decode cc pc = .ok (.putfield index, 3)) (kk : ∀ (H : Heap) (locs : List Loc), gW D ws0 ws' s H locs → W p l e R s m args below meth c H locs cells slots Q (F0 m (pc + 3) ls rest)) : W p l e R s m args below meth c H locs cells slots Q (F0 m pc ls (.int v :: .ref b :: rest)) :=
  va_put C.1 C.2.1 C.2.2.2.2.1 hin ty0 hty hnm C.2.2.2.1 E.1 hw.1 hw.2.1 hw.2.2 q0 he hc k hk (C.2.2.2.2.1 _ hl) (fun _ h => h) hfin hd rfl rfl hlen hdg (fun H1 locs1 hP hD hS => kk H1 locs1 (by rw [← hset]; exact ⟨hP, hD, hS⟩))
theorem g_putN (C : Ctx p s m args meth c cc nL own ret) (E : gE D cI s) {ws ws' : va_W} (hw : gW D ws0 ws s H locs) {Cn : String} {T : u_T} {N ci : Nat} {b : Nat} (hin : ∀ w ∈ u_ws Cn T N, w ∈ XALL) (ty0 : Nat → FieldType) (hty : ∀ k, k < N → parseFieldDescriptor (T k).2.2.1 = some (ty0 k)) (hnm : ∀ a, a < N → ∀ b, b < N → a ≠ b → (T a).2.1 ≠ (T b).2.1) (q0 : Nat) {fs : List Value} (he : ws[q0]? = some (b, .inr (ci, fs))) (hc : vwCl[ci]? = some (Cn, T, N)) (k : Nat) (hk : k < N)
    (hl : Cond.fieldLinkNest own index (T k).1 (T k).2.1 (T k).2.2.1 host ∈ NW) (hfin : (T k).2.2.2 = false) (hd : parseFieldDescriptor (T k).2.2.1 = some .int) {v : Int32} (hlen : k < fs.length) (hset : ws.set q0 (b, .inr (ci, fs.set k (.int v))) = ws') (hdg : decode cc pc = .ok (.putfield index, 3)) (kk : ∀ (H : Heap) (locs : List Loc), gW D ws0 ws' s H locs → W p l e R s m args below meth c H locs cells slots Q (F0 m (pc + 3) ls rest)) : W p l e R s m args below meth c H locs cells slots Q (F0 m pc ls (.int v :: .ref b :: rest)) :=
  va_putN C.1 C.2.1 C.2.2.2.2.1 hin ty0 hty hnm C.2.2.2.1 E.1 hw.1 hw.2.1 hw.2.2 q0 he hc k hk (va_Nw.use (nw_on (List.mem_filter.mp hl).2) (E.2 _ hl)) (fun _ h => h) hfin hd rfl rfl hlen hdg (fun H1 locs1 hP hD hS => kk H1 locs1 (by rw [← hset]; exact ⟨hP, hD, hS⟩))
theorem g_ald (C : Ctx p s m args meth c cc nL own ret) (E : gE D cI s) {ws : va_W} (hw : gW D ws0 ws s H locs) {b n : Nat} {f : Nat → Int32} (q0 : Nat) (he : ws[q0]? = some (b, .inl (cI, n, .inl f))) {i v : Int32} (hi : vp_in i n ∧ f i.toNatClampNeg = v) (hdg : decode cc pc = .ok (.iaload, 1)) (kk : W p l e R s m args below meth c H locs cells slots Q (F0 m (pc + 1) ls (.int v :: rest))) : W p l e R s m args below meth c H locs cells slots Q (F0 m pc ls (.int i :: .ref b :: rest)) := by
  obtain ⟨h1, rfl⟩ := hi
  exact va_iald C.1 C.2.1 E.1 hw.1 q0 0 he rfl h1 hdg kk
theorem g_ast (C : Ctx p s m args meth c cc nL own ret) (E : gE D cI s) {ws ws' : va_W} (hw : gW D ws0 ws s H locs) {b n : Nat} {f : Nat → Int32} (q0 : Nat) (he : ws[q0]? = some (b, .inl (cI, n, .inl f))) {i x : Int32} (hi : vp_in i n) (hset : ws.set q0 (b, .inl (cI, n, .inl (upd f i.toNatClampNeg x))) = ws') (hdg : decode cc pc = .ok (.iastore, 1)) (kk : ∀ (H : Heap) (locs : List Loc), gW D ws0 ws' s H locs → W p l e R s m args below meth c H locs cells slots Q (F0 m (pc + 1) ls rest)) : W p l e R s m args below meth c H locs cells slots Q (F0 m pc ls (.int x :: .int i :: .ref b :: rest)) :=
  va_iast C.1 C.2.1 E.1 hw.1 hw.2.1 hw.2.2 q0 0 he rfl hi hdg (fun H1 locs1 hP hD hS => kk H1 locs1 (by rw [← hset]; exact ⟨hP, hD, hS⟩))
/-! ends -/
theorem g_iret (C : Ctx p s m args meth c cc nL own (some .int)) {wf : St → va_W} {S0 S : St} (hw : gW D (wf S0) (wf S) s H locs) {mc ms : Nat} (hc : cells ≤ mc) (hs : slots ≤ ms) {post : Int32 → St → Prop} {v : Int32} (hp : post v S) (hdg : decode cc pc = .ok (.ireturn, 1)) :
    W p l e R s m args below meth c H locs cells slots (MQ below (va_Qi post (fun u t => va_P D vwCl (wf u) t.heap) (va_A (wf S0) s.heap.size)) args s mc ms (va_A (wf S0) s.heap.size)) (F0 m pc ls [.int v]) :=
  W.widen hc hs (W.iret C.1 C.2.1 C.2.2.2.2.2.1 (fun t ht hW => ⟨⟨v, S, rfl, hp, by show va_P D vwCl (wf S) t.heap; rw [ht]; exact hw.1⟩, hw.F ht⟩) hw.2.2.2.2 hdg C.2.2.2.2.2.2)
theorem g_zret (C : Ctx p s m args meth c cc nL own (some .boolean)) {wf : St → va_W} {S0 S : St} (hw : gW D (wf S0) (wf S) s H locs) {mc ms : Nat} (hc : cells ≤ mc) (hs : slots ≤ ms) {post : Int32 → St → Prop} {v : Int32} (hv : v = 0 ∨ v = 1) (hp : post v S) (hdg : decode cc pc = .ok (.ireturn, 1)) :
    W p l e R s m args below meth c H locs cells slots (MQ below (va_Qi post (fun u t => va_P D vwCl (wf u) t.heap) (va_A (wf S0) s.heap.size)) args s mc ms (va_A (wf S0) s.heap.size)) (F0 m pc ls [.int v]) :=
  W.widen hc hs (W.zret C.1 C.2.1 C.2.2.2.2.2.1 (zg_nar hv) (fun t ht hW => ⟨⟨v, S, rfl, hp, by show va_P D vwCl (wf S) t.heap; rw [ht]; exact hw.1⟩, hw.F ht⟩) hw.2.2.2.2 hdg C.2.2.2.2.2.2)
theorem g_lret (C : Ctx p s m args meth c cc nL own (some .long)) {wf : St → va_W} {S0 S : St} (hw : gW D (wf S0) (wf S) s H locs) {mc ms : Nat} (hc : cells ≤ mc) (hs : slots ≤ ms) {post : Int64 → St → Prop} {v : Int64} (hp : post v S) (hdg : decode cc pc = .ok (.lreturn, 1)) :
    W p l e R s m args below meth c H locs cells slots (MQ below (va_Ql post (fun u t => va_P D vwCl (wf u) t.heap) (va_A (wf S0) s.heap.size)) args s mc ms (va_A (wf S0) s.heap.size)) (F0 m pc ls [.long v]) :=
  W.widen hc hs (W.lret C.1 C.2.1 C.2.2.2.2.2.1 (fun t ht hW => ⟨⟨v, S, rfl, hp, by show va_P D vwCl (wf S) t.heap; rw [ht]; exact hw.1⟩, hw.F ht⟩) hw.2.2.2.2 hdg C.2.2.2.2.2.2)
theorem g_dret (C : Ctx p s m args meth c cc nL own (some .double)) {wf : St → va_W} {S0 S : St} (hw : gW D (wf S0) (wf S) s H locs) {mc ms : Nat} (hc : cells ≤ mc) (hs : slots ≤ ms) {post : UInt64 → St → Prop} {v : UInt64} (hp : post v S) (hdg : decode cc pc = .ok (.dreturn, 1)) :
    W p l e R s m args below meth c H locs cells slots (MQ below (va_Qd post (fun u t => va_P D vwCl (wf u) t.heap) (va_A (wf S0) s.heap.size)) args s mc ms (va_A (wf S0) s.heap.size)) (F0 m pc ls [.double v]) :=
  W.widen hc hs (W.dret C.1 C.2.1 C.2.2.2.2.2.1 (fun t ht hW => ⟨⟨v, S, rfl, hp, by show va_P D vwCl (wf S) t.heap; rw [ht]; exact hw.1⟩, hw.F ht⟩) hw.2.2.2.2 hdg C.2.2.2.2.2.2)
theorem g_vret (C : Ctx p s m args meth c cc nL own none) {wf : St → va_W} {S0 S : St} (hw : gW D (wf S0) (wf S) s H locs) {mc ms : Nat} (hc : cells ≤ mc) (hs : slots ≤ ms) {post : St → Prop} (hp : post S) (hdg : decode cc pc = .ok (.return_, 1)) :
    W p l e R s m args below meth c H locs cells slots (MQ below (va_Qv post (fun u t => va_P D vwCl (wf u) t.heap) (va_A (wf S0) s.heap.size)) args s mc ms (va_A (wf S0) s.heap.size)) (F0 m pc ls []) :=
  W.widen hc hs (W.vret C.1 C.2.1 C.2.2.2.2.2.1 (fun t ht hW => ⟨⟨S, rfl, hp, by show va_P D vwCl (wf S) t.heap; rw [ht]; exact hw.1⟩, hw.F ht⟩) hw.2.2.2.2 hdg C.2.2.2.2.2.2)
theorem z_iret (C : Ctx p s m args meth c cc nL own (some .int)) (hS : zS s H locs) {mc ms : Nat} (hc : cells ≤ mc) (hs : slots ≤ ms) {post : Int32 → Unit → Prop} {v : Int32} (hp : post v ()) (hdg : decode cc pc = .ok (.ireturn, 1)) :
    W p l e R s m args below meth c H locs cells slots (MQ below (va_Qi post (fun _ _ => True) (fun _ => False)) args s mc ms (fun _ => False)) (F0 m pc ls [.int v]) :=
  W.widen hc hs (W.iret C.1 C.2.1 C.2.2.2.2.2.1 (fun t ht hW => ⟨⟨v, (), rfl, hp, trivial⟩, va_S.F hS ht⟩) hS.2.2 hdg C.2.2.2.2.2.2)
theorem z_zret (C : Ctx p s m args meth c cc nL own (some .boolean)) (hS : zS s H locs) {mc ms : Nat} (hc : cells ≤ mc) (hs : slots ≤ ms) {post : Int32 → Unit → Prop} {v : Int32} (hv : v = 0 ∨ v = 1) (hp : post v ()) (hdg : decode cc pc = .ok (.ireturn, 1)) :
    W p l e R s m args below meth c H locs cells slots (MQ below (va_Qi post (fun _ _ => True) (fun _ => False)) args s mc ms (fun _ => False)) (F0 m pc ls [.int v]) :=
  W.widen hc hs (W.zret C.1 C.2.1 C.2.2.2.2.2.1 (zg_nar hv) (fun t ht hW => ⟨⟨v, (), rfl, hp, trivial⟩, va_S.F hS ht⟩) hS.2.2 hdg C.2.2.2.2.2.2)
theorem z_lret (C : Ctx p s m args meth c cc nL own (some .long)) (hS : zS s H locs) {mc ms : Nat} (hc : cells ≤ mc) (hs : slots ≤ ms) {post : Int64 → Unit → Prop} {v : Int64} (hp : post v ()) (hdg : decode cc pc = .ok (.lreturn, 1)) :
    W p l e R s m args below meth c H locs cells slots (MQ below (va_Ql post (fun _ _ => True) (fun _ => False)) args s mc ms (fun _ => False)) (F0 m pc ls [.long v]) :=
  W.widen hc hs (W.lret C.1 C.2.1 C.2.2.2.2.2.1 (fun t ht hW => ⟨⟨v, (), rfl, hp, trivial⟩, va_S.F hS ht⟩) hS.2.2 hdg C.2.2.2.2.2.2)
end BASE
end
section
/-! POSTS, and what throws -/
abbrev gQi (D : va_G) (wf : St → va_W) (S0 : St) (post : Int32 → St → Prop) (sz : Nat) : Array Value → State → Outcome → State → Prop := va_Qi post (fun u t => va_P D vwCl (wf u) t.heap) (va_A (wf S0) sz)
abbrev gQl (D : va_G) (wf : St → va_W) (S0 : St) (post : Int64 → St → Prop) (sz : Nat) : Array Value → State → Outcome → State → Prop := va_Ql post (fun u t => va_P D vwCl (wf u) t.heap) (va_A (wf S0) sz)
abbrev gQd (D : va_G) (wf : St → va_W) (S0 : St) (post : UInt64 → St → Prop) (sz : Nat) : Array Value → State → Outcome → State → Prop := va_Qd post (fun u t => va_P D vwCl (wf u) t.heap) (va_A (wf S0) sz)
abbrev gQv (D : va_G) (wf : St → va_W) (S0 : St) (post : St → Prop) (sz : Nat) : Array Value → State → Outcome → State → Prop := va_Qv post (fun u t => va_P D vwCl (wf u) t.heap) (va_A (wf S0) sz)
section BASEX
variable {p : Program} {l : Launch} {e : Env} {R : Room} {s : State} {m : MethodId} {args : Array Value} {below : List Frame} {meth : Method} {c : Code} {H : Heap} {locs : List Loc} {cells slots : Nat} {Q : State → Prop}
variable {cc bytes : ByteArray} {nL maxL : Nat} {own : String} {ret rt : Option FieldType} {D : va_G} {cI : ClassId} {pc : Nat} {ls : Array Slot} {rest st0 : List Value}
variable {wf : St → va_W} {S : St} {ws0 : va_W} {b : Nat} {As : List Value} {rm : Room} {y : MethodName} {n index : Nat} {Qc : Array Value → State → Outcome → State → Prop} {XC : String → State → State → Prop} {free : Addr → Prop} {host : String}
variable {a : Array Value} {mc ms : Nat}
/-- the callee's answer is known: eq-forms of the rows behind a call -/
theorem g_cie (ha : ∀ S S', (wf S).map Prod.fst = (wf S').map Prod.fst) (hw : gW D ws0 (wf S) s H locs) {r1 : Int32} {S1 : St} (hr : va_Run p l e R s m args below meth c H locs cells slots mc ms (F0 m pc ls st0) rest (gQi D wf S (fun r u => r = r1 ∧ u = S1) H.size a) (va_A (wf S) H.size))
    (kk : ∀ (H : Heap) (locs : List Loc), gW D ws0 (wf S1) s H locs → W p l e R s m args below meth c H locs (cells + mc) (slots + ms) Q (F0 m (pc + 3) ls (.int r1 :: rest))) : W p l e R s m args below meth c H locs cells slots Q (F0 m pc ls st0) :=
  g_ci ha hw hr (fun r u hp H locs hw => by obtain ⟨rfl, rfl⟩ := hp; exact kk H locs hw)
theorem g_cle (ha : ∀ S S', (wf S).map Prod.fst = (wf S').map Prod.fst) (hw : gW D ws0 (wf S) s H locs) {r1 : Int64} {S1 : St} (hr : va_Run p l e R s m args below meth c H locs cells slots mc ms (F0 m pc ls st0) rest (gQl D wf S (fun r u => r = r1 ∧ u = S1) H.size a) (va_A (wf S) H.size))
    (kk : ∀ (H : Heap) (locs : List Loc), gW D ws0 (wf S1) s H locs → W p l e R s m args below meth c H locs (cells + mc) (slots + ms) Q (F0 m (pc + 3) ls (.long r1 :: rest))) : W p l e R s m args below meth c H locs cells slots Q (F0 m pc ls st0) :=
  g_cl ha hw hr (fun r u hp H locs hw => by obtain ⟨rfl, rfl⟩ := hp; exact kk H locs hw)
theorem g_cve (ha : ∀ S S', (wf S).map Prod.fst = (wf S').map Prod.fst) (hw : gW D ws0 (wf S) s H locs) {S1 : St} (hr : va_Run p l e R s m args below meth c H locs cells slots mc ms (F0 m pc ls st0) rest (gQv D wf S (fun u => u = S1) H.size a) (va_A (wf S) H.size))
    (kk : ∀ (H : Heap) (locs : List Loc), gW D ws0 (wf S1) s H locs → W p l e R s m args below meth c H locs (cells + mc) (slots + ms) Q (F0 m (pc + 3) ls rest)) : W p l e R s m args below meth c H locs cells slots Q (F0 m pc ls st0) :=
  g_cv ha hw hr (fun u hp H locs hw => by subst hp; exact kk H locs hw)
abbrev zQi (r1 : Int32) : Array Value → State → Outcome → State → Prop := va_Qi (fun (r : Int32) (_ : Unit) => r = r1) (fun _ _ => True) (fun _ => False)
abbrev zQl (r1 : Int64) : Array Value → State → Outcome → State → Prop := va_Ql (fun (r : Int64) (_ : Unit) => r = r1) (fun _ _ => True) (fun _ => False)
theorem g_ci0e {ws : va_W} (hw : gW D ws0 ws s H locs) {r1 : Int32} (hr : va_Run p l e R s m args below meth c H locs cells slots mc ms (F0 m pc ls st0) rest (zQi r1 a) (fun _ => False))
    (kk : ∀ (H : Heap) (locs : List Loc), gW D ws0 ws s H locs → W p l e R s m args below meth c H locs (cells + mc) (slots + ms) Q (F0 m (pc + 3) ls (.int r1 :: rest))) : W p l e R s m args below meth c H locs cells slots Q (F0 m pc ls st0) :=
  g_ci0 hw hr (fun r hp H locs hw => by subst hp; exact kk H locs hw)
theorem g_cl0e {ws : va_W} (hw : gW D ws0 ws s H locs) {r1 : Int64} (hr : va_Run p l e R s m args below meth c H locs cells slots mc ms (F0 m pc ls st0) rest (zQl r1 a) (fun _ => False))
    (kk : ∀ (H : Heap) (locs : List Loc), gW D ws0 ws s H locs → W p l e R s m args below meth c H locs (cells + mc) (slots + ms) Q (F0 m (pc + 3) ls (.long r1 :: rest))) : W p l e R s m args below meth c H locs cells slots Q (F0 m pc ls st0) :=
  g_cl0 hw hr (fun r hp H locs hw => by subst hp; exact kk H locs hw)
theorem g_ci00e (hS : zS s H locs) {r1 : Int32} (hr : va_Run p l e R s m args below meth c H locs cells slots mc ms (F0 m pc ls st0) rest (zQi r1 a) (fun _ => False))
    (kk : ∀ (H : Heap) (locs : List Loc), zS s H locs → W p l e R s m args below meth c H locs (cells + mc) (slots + ms) Q (F0 m (pc + 3) ls (.int r1 :: rest))) : W p l e R s m args below meth c H locs cells slots Q (F0 m pc ls st0) :=
  g_ci00 hS hr (fun r hp H locs hw => by subst hp; exact kk H locs hw)
theorem g_cl00e (hS : zS s H locs) {r1 : Int64} (hr : va_Run p l e R s m args below meth c H locs cells slots mc ms (F0 m pc ls st0) rest (zQl r1 a) (fun _ => False))
    (kk : ∀ (H : Heap) (locs : List Loc), zS s H locs → W p l e R s m args below meth c H locs (cells + mc) (slots + ms) Q (F0 m (pc + 3) ls (.long r1 :: rest))) : W p l e R s m args below meth c H locs cells slots Q (F0 m pc ls st0) :=
  g_cl00 hS hr (fun r hp H locs hw => by subst hp; exact kk H locs hw)
end BASEX
end
section
theorem incm1 {x y : Int32} (h : some (x + (-1)) = some y) : x + Int32.ofInt (-1) = y := Option.some.inj h
def pr {α β γ : Type} (u : α × β) (f : α → β → γ) : γ := f u.1 u.2
theorem pr_r {α β γ : Type} {a : α} {b : β} {f : α → β → γ} {k : γ} (h : pr (a, b) f = k) : f a b = k := h
def dv (x y : UInt64) : Option UInt64 := if FP.ddiv x y &&& 0x7fffffffffffffff ≤ 0x7ff0000000000000 then some (FP.ddiv x y) else none
theorem dv_some {x y v : UInt64} (h : dv x y = some v) : vf_n64 (FP.ddiv x y) ∧ FP.ddiv x y = v := by
  unfold dv at h
  split at h
  · rename_i h1
    exact ⟨h1, Option.some.inj h⟩
  · cases h
section BASE5
variable {p : Program} {l : Launch} {e : Env} {R : Room} {s : State} {m : MethodId} {args : Array Value} {below : List Frame} {meth : Method} {c : Code} {H : Heap} {locs : List Loc} {cells slots : Nat} {Q : State → Prop}
variable {cc : ByteArray} {nL : Nat} {own : String} {ret : Option FieldType} {D : va_G} {cI : ClassId} {q : Nat → Nat} {qn : Nat} {pc : Nat} {ls : Array Slot} {rest st0 : List Value} {ws0 : va_W} {S : St}
theorem g_dconst0 (C : Ctx p s m args meth c cc nL own ret) (hdg : decode cc pc = .ok (.dconst 0, 1)) (k : W p l e R s m args below meth c H locs cells slots Q (F0 m (pc + 1) ls (.double 0 :: rest))) : W p l e R s m args below meth c H locs cells slots Q (F0 m pc ls rest) :=
  lv_dconst0 C.1 C.2.1 hdg (by rw [show FP.dconst0 = (0 : UInt64) by decide +kernel]; exact k)
theorem g_ddiv (C : Ctx p s m args meth c cc nL own ret) {x y v : UInt64} (h : dv x y = some v) (hdg : decode cc pc = .ok (.ddiv, 1)) (k : W p l e R s m args below meth c H locs cells slots Q (F0 m (pc + 1) ls (.double v :: rest))) : W p l e R s m args below meth c H locs cells slots Q (F0 m pc ls (.double y :: .double x :: rest)) := by
  obtain ⟨h1, rfl⟩ := dv_some h
  exact lv_ddiv C.1 C.2.1 hdg h1 k
end BASE5
end
section
theorem F_X1_lineFrom : FctV yX1_lineFrom cX1_lineFrom 5 (some .int) 1 := ⟨⟨kc_yX1_lineFrom, kz_X1, by decide +kernel, by decide +kernel, by decide +kernel⟩, ki_yX1_lineFrom, ks_yX1_lineFrom⟩
theorem F_X1_hang : FctV yX1_hang cX1_hang 4 none 2 := ⟨⟨kc_yX1_hang, kz_X1, by decide +kernel, by decide +kernel, by decide +kernel⟩, ki_yX1_hang, ks_yX1_hang⟩
theorem F_X1_grow : FctV yX1_grow cX1_grow 2 (some .int) 0 := ⟨⟨kc_yX1_grow, kz_X1, by decide +kernel, by decide +kernel, by decide +kernel⟩, ki_yX1_grow, ks_yX1_grow⟩
theorem F_X3_addTag : FctV yX3_addTag cX3_addTag 1 (some .int) 0 := ⟨⟨kc_yX3_addTag, kz_X3, by decide +kernel, by decide +kernel, by decide +kernel⟩, ki_yX3_addTag, ks_yX3_addTag⟩
theorem F_X3_requireTag : FctV yX3_requireTag cX3_requireTag 2 none 1 := ⟨⟨kc_yX3_requireTag, kz_X3, by decide +kernel, by decide +kernel, by decide +kernel⟩, ki_yX3_requireTag, ks_yX3_requireTag⟩
theorem F_X3_isIn : FctS yX3_isIn cX3_isIn 2 (some .boolean) 2 := ⟨⟨kc_yX3_isIn, kz_X3, by decide +kernel, by decide +kernel, by decide +kernel⟩, kt_yX3_isIn⟩
theorem F_X1_standsBelow : FctV yX1_standsBelow cX1_standsBelow 3 (some .boolean) 2 := ⟨⟨kc_yX1_standsBelow, kz_X1, by decide +kernel, by decide +kernel, by decide +kernel⟩, ki_yX1_standsBelow, ks_yX1_standsBelow⟩
theorem F_X1_canHang : FctV yX1_canHang cX1_canHang 3 (some .boolean) 2 := ⟨⟨kc_yX1_canHang, kz_X1, by decide +kernel, by decide +kernel, by decide +kernel⟩, ki_yX1_canHang, ks_yX1_canHang⟩
theorem F_X3_requirePlaceUnder : FctV yX3_requirePlaceUnder cX3_requirePlaceUnder 3 none 2 := ⟨⟨kc_yX3_requirePlaceUnder, kz_X3, by decide +kernel, by decide +kernel, by decide +kernel⟩, ki_yX3_requirePlaceUnder, ks_yX3_requirePlaceUnder⟩
theorem F_X1_linesOf : FctV yX1_linesOf cX1_linesOf 4 (some .int) 1 := ⟨⟨kc_yX1_linesOf, kz_X1, by decide +kernel, by decide +kernel, by decide +kernel⟩, ki_yX1_linesOf, ks_yX1_linesOf⟩
theorem F_X3_dreamsHaving : FctV yX3_dreamsHaving cX3_dreamsHaving 4 (some .int) 1 := ⟨⟨kc_yX3_dreamsHaving, kz_X3, by decide +kernel, by decide +kernel, by decide +kernel⟩, ki_yX3_dreamsHaving, ks_yX3_dreamsHaving⟩
theorem F_X3_allDreams : FctV yX3_allDreams cX3_allDreams 1 (some .int) 0 := ⟨⟨kc_yX3_allDreams, kz_X3, by decide +kernel, by decide +kernel, by decide +kernel⟩, ki_yX3_allDreams, ks_yX3_allDreams⟩
theorem F_X2_matchedAhead : FctV yX2_matchedAhead cX2_matchedAhead 3 (some .int) 2 := ⟨⟨kc_yX2_matchedAhead, kz_X2, by decide +kernel, by decide +kernel, by decide +kernel⟩, ki_yX2_matchedAhead, ks_yX2_matchedAhead⟩
theorem F_X2_combine : FctV yX2_combine cX2_combine 5 none 2 := ⟨⟨kc_yX2_combine, kz_X2, by decide +kernel, by decide +kernel, by decide +kernel⟩, ki_yX2_combine, ks_yX2_combine⟩
theorem F_X3_rematchTerms : FctV yX3_rematchTerms cX3_rematchTerms 2 none 0 := ⟨⟨kc_yX3_rematchTerms, kz_X3, by decide +kernel, by decide +kernel, by decide +kernel⟩, ki_yX3_rematchTerms, ks_yX3_rematchTerms⟩
theorem F_X3_moveTag : FctV yX3_moveTag cX3_moveTag 4 none 2 := ⟨⟨kc_yX3_moveTag, kz_X3, by decide +kernel, by decide +kernel, by decide +kernel⟩, ki_yX3_moveTag, ks_yX3_moveTag⟩
theorem F_J6_bitCount_0f7a4 : FctS yJ6_bitCount_0f7a4 cJ6_bitCount_0f7a4 1 (some .int) 1 := ⟨⟨kc_yJ6_bitCount_0f7a4, kz_J6, by decide +kernel, by decide +kernel, by decide +kernel⟩, kt_yJ6_bitCount_0f7a4⟩
theorem F_X1_countAbove : FctV yX1_countAbove cX1_countAbove 2 (some .int) 1 := ⟨⟨kc_yX1_countAbove, kz_X1, by decide +kernel, by decide +kernel, by decide +kernel⟩, ki_yX1_countAbove, ks_yX1_countAbove⟩
theorem F_X3_putUnder : FctV yX3_putUnder cX3_putUnder 3 (some .int) 2 := ⟨⟨kc_yX3_putUnder, kz_X3, by decide +kernel, by decide +kernel, by decide +kernel⟩, ki_yX3_putUnder, ks_yX3_putUnder⟩
theorem F_X3_requireParent : FctV yX3_requireParent cX3_requireParent 2 none 1 := ⟨⟨kc_yX3_requireParent, kz_X3, by decide +kernel, by decide +kernel, by decide +kernel⟩, ki_yX3_requireParent, ks_yX3_requireParent⟩
theorem F_X3_freeTag : FctV yX3_freeTag cX3_freeTag 3 (some .int) 1 := ⟨⟨kc_yX3_freeTag, kz_X3, by decide +kernel, by decide +kernel, by decide +kernel⟩, ki_yX3_freeTag, ks_yX3_freeTag⟩
theorem F_X3_setOwnTags : FctV yX3_setOwnTags cX3_setOwnTags 3 none 2 := ⟨⟨kc_yX3_setOwnTags, kz_X3, by decide +kernel, by decide +kernel, by decide +kernel⟩, ki_yX3_setOwnTags, ks_yX3_setOwnTags⟩
theorem F_X3_addDream : FctV yX3_addDream cX3_addDream 4 (some .int) 2 := ⟨⟨kc_yX3_addDream, kz_X3, by decide +kernel, by decide +kernel, by decide +kernel⟩, ki_yX3_addDream, ks_yX3_addDream⟩
theorem F_X3_requireDream : FctV yX3_requireDream cX3_requireDream 2 none 1 := ⟨⟨kc_yX3_requireDream, kz_X3, by decide +kernel, by decide +kernel, by decide +kernel⟩, ki_yX3_requireDream, ks_yX3_requireDream⟩
theorem F_X3_tagDream : FctV yX3_tagDream cX3_tagDream 3 (some .int) 2 := ⟨⟨kc_yX3_tagDream, kz_X3, by decide +kernel, by decide +kernel, by decide +kernel⟩, ki_yX3_tagDream, ks_yX3_tagDream⟩
theorem F_X3_untagDream : FctV yX3_untagDream cX3_untagDream 3 (some .int) 2 := ⟨⟨kc_yX3_untagDream, kz_X3, by decide +kernel, by decide +kernel, by decide +kernel⟩, ki_yX3_untagDream, ks_yX3_untagDream⟩
theorem F_X3_recall : FctV yX3_recall cX3_recall 4 (some .int) 2 := ⟨⟨kc_yX3_recall, kz_X3, by decide +kernel, by decide +kernel, by decide +kernel⟩, ki_yX3_recall, ks_yX3_recall⟩
theorem F_X3_requireNights : FctV yX3_requireNights cX3_requireNights 2 none 1 := ⟨⟨kc_yX3_requireNights, kz_X3, by decide +kernel, by decide +kernel, by decide +kernel⟩, ki_yX3_requireNights, ks_yX3_requireNights⟩
theorem F_X3_ownTagsOfLatest : FctV yX3_ownTagsOfLatest cX3_ownTagsOfLatest 1 (some .int) 0 := ⟨⟨kc_yX3_ownTagsOfLatest, kz_X3, by decide +kernel, by decide +kernel, by decide +kernel⟩, ki_yX3_ownTagsOfLatest, ks_yX3_ownTagsOfLatest⟩
theorem F_X3_vividnessAfter : FctV yX3_vividnessAfter cX3_vividnessAfter 4 (some .int) 2 := ⟨⟨kc_yX3_vividnessAfter, kz_X3, by decide +kernel, by decide +kernel, by decide +kernel⟩, ki_yX3_vividnessAfter, ks_yX3_vividnessAfter⟩
theorem F_X3_countFadedAfter : FctV yX3_countFadedAfter cX3_countFadedAfter 4 (some .int) 1 := ⟨⟨kc_yX3_countFadedAfter, kz_X3, by decide +kernel, by decide +kernel, by decide +kernel⟩, ki_yX3_countFadedAfter, ks_yX3_countFadedAfter⟩
theorem F_X3_passNights : FctV yX3_passNights cX3_passNights 3 (some .int) 1 := ⟨⟨kc_yX3_passNights, kz_X3, by decide +kernel, by decide +kernel, by decide +kernel⟩, ki_yX3_passNights, ks_yX3_passNights⟩
theorem F_X3_requireRoomForTerm : FctV yX3_requireRoomForTerm cX3_requireRoomForTerm 1 none 0 := ⟨⟨kc_yX3_requireRoomForTerm, kz_X3, by decide +kernel, by decide +kernel, by decide +kernel⟩, ki_yX3_requireRoomForTerm, ks_yX3_requireRoomForTerm⟩
theorem F_X2_add : FctV yX2_add cX2_add 5 (some .int) 3 := ⟨⟨kc_yX2_add, kz_X2, by decide +kernel, by decide +kernel, by decide +kernel⟩, ki_yX2_add, ks_yX2_add⟩
theorem F_X3_addTerm : FctV yX3_addTerm cX3_addTerm 5 (some .int) 3 := ⟨⟨kc_yX3_addTerm, kz_X3, by decide +kernel, by decide +kernel, by decide +kernel⟩, ki_yX3_addTerm, ks_yX3_addTerm⟩
theorem F_X3_addTagTerm : FctV yX3_addTagTerm cX3_addTagTerm 2 (some .int) 1 := ⟨⟨kc_yX3_addTagTerm, kz_X3, by decide +kernel, by decide +kernel, by decide +kernel⟩, ki_yX3_addTagTerm, ks_yX3_addTagTerm⟩
theorem F_X3_requireTerm : FctV yX3_requireTerm cX3_requireTerm 2 none 1 := ⟨⟨kc_yX3_requireTerm, kz_X3, by decide +kernel, by decide +kernel, by decide +kernel⟩, ki_yX3_requireTerm, ks_yX3_requireTerm⟩
theorem F_X3_addBothTerm : FctV yX3_addBothTerm cX3_addBothTerm 3 (some .int) 2 := ⟨⟨kc_yX3_addBothTerm, kz_X3, by decide +kernel, by decide +kernel, by decide +kernel⟩, ki_yX3_addBothTerm, ks_yX3_addBothTerm⟩
theorem F_X3_addEitherTerm : FctV yX3_addEitherTerm cX3_addEitherTerm 3 (some .int) 2 := ⟨⟨kc_yX3_addEitherTerm, kz_X3, by decide +kernel, by decide +kernel, by decide +kernel⟩, ki_yX3_addEitherTerm, ks_yX3_addEitherTerm⟩
theorem F_X3_addWithoutTerm : FctV yX3_addWithoutTerm cX3_addWithoutTerm 2 (some .int) 1 := ⟨⟨kc_yX3_addWithoutTerm, kz_X3, by decide +kernel, by decide +kernel, by decide +kernel⟩, ki_yX3_addWithoutTerm, ks_yX3_addWithoutTerm⟩
theorem F_X3_clearTerms : FctV yX3_clearTerms cX3_clearTerms 2 (some .int) 0 := ⟨⟨kc_yX3_clearTerms, kz_X3, by decide +kernel, by decide +kernel, by decide +kernel⟩, ki_yX3_clearTerms, ks_yX3_clearTerms⟩
theorem F_X3_hasParent : FctV yX3_hasParent cX3_hasParent 2 (some .boolean) 1 := ⟨⟨kc_yX3_hasParent, kz_X3, by decide +kernel, by decide +kernel, by decide +kernel⟩, ki_yX3_hasParent, ks_yX3_hasParent⟩
theorem F_X3_parentOf : FctV yX3_parentOf cX3_parentOf 2 (some .int) 1 := ⟨⟨kc_yX3_parentOf, kz_X3, by decide +kernel, by decide +kernel, by decide +kernel⟩, ki_yX3_parentOf, ks_yX3_parentOf⟩
theorem F_X3_tagsAbove : FctV yX3_tagsAbove cX3_tagsAbove 2 (some .int) 1 := ⟨⟨kc_yX3_tagsAbove, kz_X3, by decide +kernel, by decide +kernel, by decide +kernel⟩, ki_yX3_tagsAbove, ks_yX3_tagsAbove⟩
theorem F_X1_countBelow : FctV yX1_countBelow cX1_countBelow 4 (some .int) 1 := ⟨⟨kc_yX1_countBelow, kz_X1, by decide +kernel, by decide +kernel, by decide +kernel⟩, ki_yX1_countBelow, ks_yX1_countBelow⟩
theorem F_X3_tagsBelow : FctV yX3_tagsBelow cX3_tagsBelow 2 (some .int) 1 := ⟨⟨kc_yX3_tagsBelow, kz_X3, by decide +kernel, by decide +kernel, by decide +kernel⟩, ki_yX3_tagsBelow, ks_yX3_tagsBelow⟩
theorem F_X3_isBelow : FctV yX3_isBelow cX3_isBelow 3 (some .boolean) 2 := ⟨⟨kc_yX3_isBelow, kz_X3, by decide +kernel, by decide +kernel, by decide +kernel⟩, ki_yX3_isBelow, ks_yX3_isBelow⟩
theorem F_X1_lowestOf : FctV yX1_lowestOf cX1_lowestOf 5 (some .int) 1 := ⟨⟨kc_yX1_lowestOf, kz_X1, by decide +kernel, by decide +kernel, by decide +kernel⟩, ki_yX1_lowestOf, ks_yX1_lowestOf⟩
theorem F_X3_nearestAbove : FctV yX3_nearestAbove cX3_nearestAbove 3 (some .int) 2 := ⟨⟨kc_yX3_nearestAbove, kz_X3, by decide +kernel, by decide +kernel, by decide +kernel⟩, ki_yX3_nearestAbove, ks_yX3_nearestAbove⟩
theorem F_X3_dreamsWith : FctV yX3_dreamsWith cX3_dreamsWith 2 (some .int) 1 := ⟨⟨kc_yX3_dreamsWith, kz_X3, by decide +kernel, by decide +kernel, by decide +kernel⟩, ki_yX3_dreamsWith, ks_yX3_dreamsWith⟩
theorem F_X3_hasOwnTag : FctV yX3_hasOwnTag cX3_hasOwnTag 3 (some .boolean) 2 := ⟨⟨kc_yX3_hasOwnTag, kz_X3, by decide +kernel, by decide +kernel, by decide +kernel⟩, ki_yX3_hasOwnTag, ks_yX3_hasOwnTag⟩
theorem F_X3_hasTag : FctV yX3_hasTag cX3_hasTag 3 (some .boolean) 2 := ⟨⟨kc_yX3_hasTag, kz_X3, by decide +kernel, by decide +kernel, by decide +kernel⟩, ki_yX3_hasTag, ks_yX3_hasTag⟩
theorem F_X3_tagsOf : FctV yX3_tagsOf cX3_tagsOf 2 (some .int) 1 := ⟨⟨kc_yX3_tagsOf, kz_X3, by decide +kernel, by decide +kernel, by decide +kernel⟩, ki_yX3_tagsOf, ks_yX3_tagsOf⟩
theorem F_X3_vividnessOf : FctV yX3_vividnessOf cX3_vividnessOf 2 (some .int) 1 := ⟨⟨kc_yX3_vividnessOf, kz_X3, by decide +kernel, by decide +kernel, by decide +kernel⟩, ki_yX3_vividnessOf, ks_yX3_vividnessOf⟩
theorem F_X3_nightOf : FctV yX3_nightOf cX3_nightOf 2 (some .int) 1 := ⟨⟨kc_yX3_nightOf, kz_X3, by decide +kernel, by decide +kernel, by decide +kernel⟩, ki_yX3_nightOf, ks_yX3_nightOf⟩
theorem F_X3_matches : FctV yX3_matches cX3_matches 3 (some .boolean) 2 := ⟨⟨kc_yX3_matches, kz_X3, by decide +kernel, by decide +kernel, by decide +kernel⟩, ki_yX3_matches, ks_yX3_matches⟩
theorem F_X3_matchesOf : FctV yX3_matchesOf cX3_matchesOf 2 (some .int) 1 := ⟨⟨kc_yX3_matchesOf, kz_X3, by decide +kernel, by decide +kernel, by decide +kernel⟩, ki_yX3_matchesOf, ks_yX3_matchesOf⟩
theorem F_X3_tagsSharedBy : FctV yX3_tagsSharedBy cX3_tagsSharedBy 4 (some .int) 1 := ⟨⟨kc_yX3_tagsSharedBy, kz_X3, by decide +kernel, by decide +kernel, by decide +kernel⟩, ki_yX3_tagsSharedBy, ks_yX3_tagsSharedBy⟩
theorem F_X3_commonTags : FctV yX3_commonTags cX3_commonTags 2 (some .int) 1 := ⟨⟨kc_yX3_commonTags, kz_X3, by decide +kernel, by decide +kernel, by decide +kernel⟩, ki_yX3_commonTags, ks_yX3_commonTags⟩
theorem F_X3_matchSame : FctV yX3_matchSame cX3_matchSame 3 (some .boolean) 2 := ⟨⟨kc_yX3_matchSame, kz_X3, by decide +kernel, by decide +kernel, by decide +kernel⟩, ki_yX3_matchSame, ks_yX3_matchSame⟩
theorem F_X0_coverFrom : FctS yX0_coverFrom cX0_coverFrom 7 (some .int) 5 := ⟨⟨kc_yX0_coverFrom, kz_X0, by decide +kernel, by decide +kernel, by decide +kernel⟩, kt_yX0_coverFrom⟩
theorem F_X0_smallestOf : FctV yX0_smallestOf cX0_smallestOf 4 (some .int) 1 := ⟨⟨kc_yX0_smallestOf, kz_X0, by decide +kernel, by decide +kernel, by decide +kernel⟩, ki_yX0_smallestOf, ks_yX0_smallestOf⟩
theorem F_X3_smallestCover : FctV yX3_smallestCover cX3_smallestCover 4 (some .int) 1 := ⟨⟨kc_yX3_smallestCover, kz_X3, by decide +kernel, by decide +kernel, by decide +kernel⟩, ki_yX3_smallestCover, ks_yX3_smallestCover⟩
theorem F_X3_coverSize : FctV yX3_coverSize cX3_coverSize 2 (some .int) 1 := ⟨⟨kc_yX3_coverSize, kz_X3, by decide +kernel, by decide +kernel, by decide +kernel⟩, ki_yX3_coverSize, ks_yX3_coverSize⟩
theorem F_X3_tags : FctV yX3_tags cX3_tags 1 (some .int) 0 := ⟨⟨kc_yX3_tags, kz_X3, by decide +kernel, by decide +kernel, by decide +kernel⟩, ki_yX3_tags, ks_yX3_tags⟩
theorem F_X3_dreams : FctV yX3_dreams cX3_dreams 1 (some .int) 0 := ⟨⟨kc_yX3_dreams, kz_X3, by decide +kernel, by decide +kernel, by decide +kernel⟩, ki_yX3_dreams, ks_yX3_dreams⟩
theorem F_X3_terms : FctV yX3_terms cX3_terms 1 (some .int) 0 := ⟨⟨kc_yX3_terms, kz_X3, by decide +kernel, by decide +kernel, by decide +kernel⟩, ki_yX3_terms, ks_yX3_terms⟩
theorem F_X3_nights : FctV yX3_nights cX3_nights 1 (some .int) 0 := ⟨⟨kc_yX3_nights, kz_X3, by decide +kernel, by decide +kernel, by decide +kernel⟩, ki_yX3_nights, ks_yX3_nights⟩
theorem F_X3_fadedDreams : FctV yX3_fadedDreams cX3_fadedDreams 1 (some .int) 0 := ⟨⟨kc_yX3_fadedDreams, kz_X3, by decide +kernel, by decide +kernel, by decide +kernel⟩, ki_yX3_fadedDreams, ks_yX3_fadedDreams⟩
theorem F_X3_meanVividness : FctV yX3_meanVividness cX3_meanVividness 3 (some .double) 0 := ⟨⟨kc_yX3_meanVividness, kz_X3, by decide +kernel, by decide +kernel, by decide +kernel⟩, ki_yX3_meanVividness, ks_yX3_meanVividness⟩
end
section
/-! THE LAW'S SIDE: what travels, and the worlds of the law's own ledger -/
def gEL (D : va_G) (k : Nat → ClassId) (s : State) : Prop := va_K D vwCl [(k 0, .int), (k 1, .boolean), (k 2, .array .boolean), (k 3, .array .int)] s ∧ xEnv s ∧ va_AOA .boolean s ∧ va_AOA .int s
theorem gEL.E {D : va_G} {k : Nat → ClassId} {s : State} (h : gEL D k s) : gE D (k 0) s := ⟨h.1.sub [0] rfl, h.2.1⟩
theorem gEL.warm {D : va_G} {k : Nat → ClassId} {s U : State} (hW : s.WarmedH U.vm) (h : gEL D k s) : gEL D k U :=
  ⟨va_K.moved hW.alike h.1, xEnv.warm hW h.2.1, va_AOA.moved hW.alike h.2.2.1, va_AOA.moved hW.alike h.2.2.2⟩
theorem gEL.same {D : va_G} {k : Nat → ClassId} {s U : State} (hW : s.vm = U.vm) (h : gEL D k s) : gEL D k U := by
  have ha : s.vm.Alike U.vm := by rw [hW]; exact Vm.Alike.refl _
  exact ⟨va_K.moved ha h.1, xEnv.same hW h.2.1, va_AOA.moved ha h.2.2.1, va_AOA.moved ha h.2.2.2⟩
def gPreL (D : va_G) (k : Nat → ClassId) (ws : va_W) (sz : Nat) (U : State) : Prop :=
  U.heap.size = sz ∧ va_P D vwCl ws U.heap ∧ va_D (fun _ => True) ws ∧ gEL D k U
theorem gPreL_blind {D : va_G} {k : Nat → ClassId} {ws : va_W} {sz : Nat} {av : List Value} : FrameBlind (va_Pc av (gPreL D k ws sz)) := by
  intro a U g mk h
  obtain ⟨h0, h1, h2, h3, h4⟩ := h
  exact ⟨h0, h1, h2, h3, gEL.same (s := U) (U := U.calling g mk a) rfl h4⟩
theorem gPreL_of {D : va_G} {k : Nat → ClassId} {ws0 ws : va_W} {s U : State} {H : Heap} {locs : List Loc} (E : gEL D k s) (h : gW D ws0 ws s H locs) (hU : U.heap = H) (hW : s.WarmedH U.vm) : gPreL D k ws H.size U :=
  ⟨by rw [hU], by rw [hU]; exact h.1, h.2.1.weaken (fun _ _ _ _ => trivial), gEL.warm hW E⟩
theorem gL_start {D : va_G} {k : Nat → ClassId} {ws : va_W} {sz : Nat} {s : State} (h : gPreL D k ws sz s) : gEL D k s ∧ gW D ws ws s s.heap [] ∧ s.heap.size = sz :=
  ⟨h.2.2.2, ⟨h.2.1, h.2.2.1.self, va_S.rf⟩, h.1⟩
abbrev refs (f : Nat → Option Nat) : (Nat → Int32) ⊕ (Nat → Int64) ⊕ (Nat → UInt32) ⊕ (Nat → UInt64) ⊕ (Nat → Option Nat) := .inr (.inr (.inr (.inr f)))
def sfs (r : Nat → Nat) (T : St) : List Value := [.int (T 34 0), .int (T 35 0), .int (T 36 0), .int (T 37 0), .ref (r 1), .ref (r 2), .ref (r 3), .ref (r 4), .ref (r 5)]
/-- the cells of the law's ledger by their places: itself, its rows, the rows of own tags, the rows of terms -/
def swE (k : Nat → ClassId) (r : Nat → Nat) (tf : Nat → Option Nat) (tq : Nat → Nat) (T : St) : Nat → Nat × va_E
  | 0 => (r 0, .inr (4, sfs r T))
  | 1 => (r 1, .inl (k 0, 16, .inl (T 1)))
  | 2 => (r 2, .inl (k 2, 24, refs (fun d => some (r (6 + d)))))
  | 3 => (r 3, .inl (k 0, 24, .inl (T 3)))
  | 4 => (r 4, .inl (k 0, 24, .inl (T 4)))
  | 5 => (r 5, .inl (k 3, 20, refs tf))
  | i + 6 => if i < 24 then (r (6 + i), .inl (k 1, 16, .inl (T (10 + i)))) else (tq (i - 24), .inl (k 0, 3, .inl (T (40 + (i - 24)))))
theorem swE_6 {k : Nat → ClassId} {r : Nat → Nat} {tf : Nat → Option Nat} {tq : Nat → Nat} {T : St} (i : Nat) : swE k r tf tq T (i + 6) = if i < 24 then (r (6 + i), .inl (k 1, 16, .inl (T (10 + i)))) else (tq (i - 24), .inl (k 0, 3, .inl (T (40 + (i - 24))))) := rfl
def SW (k : Nat → ClassId) (r : Nat → Nat) (tf : Nat → Option Nat) (tq : Nat → Nat) (nt : Nat) (T : St) : va_W := (List.range (30 + nt)).map (swE k r tf tq T)
theorem SW_len {k : Nat → ClassId} {r : Nat → Nat} {tf : Nat → Option Nat} {tq : Nat → Nat} {nt : Nat} {T : St} : (SW k r tf tq nt T).length = 30 + nt := by unfold SW; rw [List.length_map, List.length_range]
theorem SW_at {k : Nat → ClassId} {r : Nat → Nat} {tf : Nat → Option Nat} {tq : Nat → Nat} {nt : Nat} {T : St} {i : Nat} (h : i < 30 + nt) : (SW k r tf tq nt T)[i]? = some (swE k r tf tq T i) := by
  unfold SW
  rw [List.getElem?_map, List.getElem?_range h]
  rfl
theorem SW_adr {k : Nat → ClassId} {r : Nat → Nat} {tf : Nat → Option Nat} {tq : Nat → Nat} {nt : Nat} (T T' : St) : (SW k r tf tq nt T).map Prod.fst = (SW k r tf tq nt T').map Prod.fst := by
  unfold SW
  rw [List.map_map, List.map_map]
  refine List.map_congr_left (fun i _ => ?_)
  show (swE k r tf tq T i).1 = (swE k r tf tq T' i).1
  match i with
  | 0 | 1 | 2 | 3 | 4 | 5 => rfl
  | i + 6 =>
    rw [swE_6, swE_6]
    by_cases h : i < 24
    · rw [if_pos h, if_pos h]
    · rw [if_neg h, if_neg h]
/-- which place holds which row of the state -/
def swR (p a : Nat) : Prop := (p = 0 ∧ 34 ≤ a ∧ a < 38) ∨ (p = a ∧ (a = 1 ∨ a = 3 ∨ a = 4)) ∨ ∃ j, j < 24 ∧ p = 6 + j ∧ a = 10 + j
theorem SW_set {k : Nat → ClassId} {r : Nat → Nat} {tf : Nat → Option Nat} {tq : Nat → Nat} {nt : Nat} {T T' : St} {p a : Nat} (hp : p < 30) (hR : swR p a) (h : ∀ b, b ≠ a → T' b = T b) : (SW k r tf tq nt T).set p (swE k r tf tq T' p) = SW k r tf tq nt T' := by
  refine List.ext_getElem? (fun i => ?_)
  rw [List.getElem?_set]
  by_cases hip : p = i
  · subst hip
    rw [if_pos rfl, SW_at (by omega), if_pos (by rw [SW_len]; omega)]
  · rw [if_neg hip]
    by_cases hi : i < 30 + nt
    · rw [SW_at hi, SW_at hi]
      congr 1
      symm
      have e0 : i ≠ 0 → (a = 34 ∨ a = 35 ∨ a = 36 ∨ a = 37) ∨ (a ≠ i ∨ (a ≠ 1 ∧ a ≠ 3 ∧ a ≠ 4)) := fun _ => by
        rcases hR with ⟨h1, h2, h3⟩ | ⟨h1, h2⟩ | ⟨j, h1, h2, h3⟩ <;> omega
      have e1 : ∀ d, d < 24 → i = 6 + d → a ≠ 10 + d := fun d hd hi2 => by
        rcases hR with ⟨h1, h2, h3⟩ | ⟨h1, h2⟩ | ⟨j, h1, h2, h3⟩ <;> omega
      have e2 : a < 40 := by
        rcases hR with ⟨h1, h2, h3⟩ | ⟨h1, h2⟩ | ⟨j, h1, h2, h3⟩ <;> omega
      have e3 : i = 0 → ∀ b, 34 ≤ b → b < 38 → T' b = T b := fun hi0 b h1 h2 => h b (by
        rcases hR with ⟨h1, h2, h3⟩ | ⟨h1, h2⟩ | ⟨j, h1, h2, h3⟩ <;> omega)
      match i with
      | 0 =>
        show (r 0, Sum.inr (4, sfs r T')) = (r 0, Sum.inr (4, sfs r T))
        unfold sfs
        rw [e3 rfl 34 (by omega) (by omega), e3 rfl 35 (by omega) (by omega), e3 rfl 36 (by omega) (by omega), e3 rfl 37 (by omega) (by omega)]
      | 1 =>
        show (r 1, Sum.inl (k 0, 16, Sum.inl (T' 1))) = (r 1, Sum.inl (k 0, 16, Sum.inl (T 1)))
        rw [h 1 (by have := e0 (by decide); omega)]
      | 2 => rfl
      | 3 =>
        show (r 3, Sum.inl (k 0, 24, Sum.inl (T' 3))) = (r 3, Sum.inl (k 0, 24, Sum.inl (T 3)))
        rw [h 3 (by have := e0 (by decide); omega)]
      | 4 =>
        show (r 4, Sum.inl (k 0, 24, Sum.inl (T' 4))) = (r 4, Sum.inl (k 0, 24, Sum.inl (T 4)))
        rw [h 4 (by have := e0 (by decide); omega)]
      | 5 => rfl
      | i + 6 =>
        rw [swE_6, swE_6]
        by_cases h9 : i < 24
        · rw [if_pos h9, if_pos h9, h (10 + i) (fun q => e1 i h9 (by omega) q.symm)]
        · rw [if_neg h9, if_neg h9, h (40 + (i - 24)) (by omega)]
    · have n1 : ∀ Z, (SW k r tf tq nt Z)[i]? = none := fun Z => List.getElem?_eq_none (by rw [SW_len]; omega)
      rw [n1, n1]
/-- the rows of what all terms match -/
def mat (k : Nat → ClassId) (a : Nat) (mq : Nat → Nat) (K N : Nat) (B : St) : va_W := (a, .inl (k 2, K, refs (fun i => if i < K then some (mq i) else none))) :: (List.range K).map (fun i => (mq i, .inl (k 1, N, .inl (B i))))
def gok (tf : Nat → Option Nat) (tq : Nat → Nat) (nt : Nat) (v : Int32) : Prop := (∀ i, i < nt → tf i = some (tq i)) ∧ v.toNatClampNeg ≤ nt ∧ nt ≤ 20
def LW (k : Nat → ClassId) (qx r : Nat → Nat) (tf : Nat → Option Nat) (tq : Nat → Nat) (nt : Nat) (S T : St) (ex : va_W) : va_W := xw (k 0) qx S ++ (SW k r tf tq nt T ++ ex)
/-- the law's world while it walks; which rows of terms there are isn't said -/
def gS (D : va_G) (ws0 : va_W) (k : Nat → ClassId) (qx r : Nat → Nat) (S T : St) (ex : va_W) (s : State) (H : Heap) (locs : List Loc) : Prop := ∃ tf tq nt, gok tf tq nt (T 36 0) ∧ gW D ws0 (LW k qx r tf tq nt S T ex) s H locs
def ix (n : Nat) (x : Int32) : Option Nat := if x < 0 ∨ n ≤ x.toNatClampNeg then none else some x.toNatClampNeg
theorem ix_some {n j : Nat} {x : Int32} (h : ix n x = some j) : vp_in x n ∧ x.toNatClampNeg = j ∧ j < n := by
  unfold ix at h
  split at h
  · cases h
  · rename_i h1
    have h2 := Option.some.inj h
    exact ⟨h1, h2, by rw [← h2]; exact Nat.not_le.mp (fun q => h1 (Or.inr q))⟩
def ldO (T : St) (j : Nat) (x : Int32) : Option Int32 := if j < 24 then ld T (10 + j) 16 x else none
theorem ldO_some {T : St} {j : Nat} {x v : Int32} (h : ldO T j x = some v) : j < 24 ∧ ld T (10 + j) 16 x = some v := by
  unfold ldO at h
  split at h
  · rename_i h1
    exact ⟨h1, h⟩
  · cases h
def stoO (T : St) (j : Nat) (x v : Int32) : Option St := if j < 24 then sto T (10 + j) 16 x v else none
theorem stoO_some {T T' : St} {j : Nat} {x v : Int32} (h : stoO T j x v = some T') : j < 24 ∧ sto T (10 + j) 16 x v = some T' := by
  unfold stoO at h
  split at h
  · rename_i h1
    exact ⟨h1, h⟩
  · cases h
section SIMW
variable {p : Program} {l : Launch} {e : Env} {R : Room} {s : State} {m : MethodId} {args : Array Value} {below : List Frame} {meth : Method} {c : Code} {H : Heap} {locs : List Loc} {cells slots : Nat} {Q : State → Prop}
variable {cc bytes : ByteArray} {nL maxL : Nat} {own : String} {ret rt : Option FieldType} {D : va_G} {k : Nat → ClassId} {qx r : Nat → Nat} {pc : Nat} {ls : Array Slot} {rest st0 : List Value} {ws0 : va_W} {S T : St} {ex : va_W}
theorem gW_part {w w' ex : va_W} {H1 : Heap} {locs1 : List Loc} (hw : gW D ws0 (w ++ ex) s H locs) (ha : w.map Prod.fst = w'.map Prod.fst) (hB : va_P D vwCl w' H1) (hk : ∀ q : Nat, q < H.size → ¬ va_A w H.size q → H1[q]? = H[q]?) (hS : va_S (va_A ws0 s.heap.size) s.heap H1 locs1) : gW D ws0 (w' ++ ex) s H1 locs1 := by
  refine ⟨hB.app (fun k x hx => ?_), gD (by rw [List.map_append, List.map_append, ha]) hw.2.1, hS⟩
  have hk1 : (w ++ ex)[w.length + k]? = some x := by rw [List.getElem?_append_right (Nat.le_add_right _ _), Nat.add_sub_cancel_left]; exact hx
  refine (hw.1 _ _ hk1).kept (hk _ (hw.1 _ _ hk1).lt (fun hA => ?_))
  rcases hA with ⟨i, e9, hi⟩ | hA
  · have hl := (List.getElem?_eq_some_iff.mp hi).1
    have hi2 : (w ++ ex)[i]? = some (x.1, e9) := by rw [List.getElem?_append_left hl]; exact hi
    have := hw.2.1.1 _ _ _ _ hi2 hk1 rfl
    omega
  · exact absurd hA (Nat.not_le.mpr (hw.1 _ _ hk1).lt)
theorem gW_sub1 {w ex : va_W} (hw : gW D ws0 (w ++ ex) s H locs) : gW D ws0 w s H locs := by
  refine ⟨fun k x hx => hw.1 k x (by rw [List.getElem?_append_left (List.getElem?_eq_some_iff.mp hx).1]; exact hx), ⟨fun i j x y hi hj hxy => ?_, fun k x hx => ?_⟩, hw.2.2⟩
  · exact hw.2.1.1 i j x y (by rw [List.getElem?_append_left (List.getElem?_eq_some_iff.mp hi).1]; exact hi) (by rw [List.getElem?_append_left (List.getElem?_eq_some_iff.mp hj).1]; exact hj) hxy
  · exact hw.2.1.2 k x (by rw [List.getElem?_append_left (List.getElem?_eq_some_iff.mp hx).1]; exact hx)
theorem gW_swap {a b : va_W} (hw : gW D ws0 (a ++ b) s H locs) : gW D ws0 (b ++ a) s H locs := by
  have key : ∀ (k : Nat) (x : Nat × va_E), (b ++ a)[k]? = some x → ∃ i : Nat, (a ++ b)[i]? = some x ∧ ((k < b.length ∧ i = a.length + k) ∨ (b.length ≤ k ∧ i = k - b.length ∧ i < a.length)) := by
    intro k x hk
    by_cases hl : k < b.length
    · rw [List.getElem?_append_left hl] at hk
      exact ⟨a.length + k, by rw [List.getElem?_append_right (Nat.le_add_right _ _), Nat.add_sub_cancel_left]; exact hk, Or.inl ⟨hl, rfl⟩⟩
    · rw [List.getElem?_append_right (by omega)] at hk
      have hz := (List.getElem?_eq_some_iff.mp hk).1
      exact ⟨k - b.length, by rw [List.getElem?_append_left hz]; exact hk, Or.inr ⟨by omega, rfl, hz⟩⟩
  refine ⟨fun k x hk => ?_, ⟨fun i j x y hi hj hxy => ?_, fun k x hk => ?_⟩, hw.2.2⟩
  · obtain ⟨i, h1, -⟩ := key k x hk
    exact hw.1 i x h1
  · obtain ⟨i', h1, h2⟩ := key i x hi
    obtain ⟨j', h3, h4⟩ := key j y hj
    have := hw.2.1.1 i' j' x y h1 h3 hxy
    omega
  · obtain ⟨i, h1, -⟩ := key k x hk
    exact hw.2.1.2 i x h1
theorem LW_sw {tf : Nat → Option Nat} {tq : Nat → Nat} {nt : Nat} (hw : gW D ws0 (LW k qx r tf tq nt S T ex) s H locs) : gW D ws0 (SW k r tf tq nt T ++ (ex ++ xw (k 0) qx S)) s H locs := by
  rw [← List.append_assoc]
  exact gW_swap hw
theorem LW_ofsw {tf : Nat → Option Nat} {tq : Nat → Nat} {nt : Nat} (hw : gW D ws0 (SW k r tf tq nt T ++ (ex ++ xw (k 0) qx S)) s H locs) : gW D ws0 (LW k qx r tf tq nt S T ex) s H locs := by
  rw [← List.append_assoc] at hw
  exact gW_swap hw
theorem LW_at {tf : Nat → Option Nat} {tq : Nat → Nat} {nt i : Nat} (h : i < 30 + nt) : (LW k qx r tf tq nt S T ex)[16 + i]? = some (swE k r tf tq T i) := by
  unfold LW
  have hx : (xw (k 0) qx S).length = 16 := rfl
  rw [List.getElem?_append_right (by rw [hx]; omega), hx, Nat.add_sub_cancel_left, List.getElem?_append_left (by rw [SW_len]; exact h), SW_at h]
theorem LW_set {tf : Nat → Option Nat} {tq : Nat → Nat} {nt i a : Nat} {T' : St} (hi : i < 30) (hR : swR i a) (h : ∀ b, b ≠ a → T' b = T b) : (LW k qx r tf tq nt S T ex).set (16 + i) (swE k r tf tq T' i) = LW k qx r tf tq nt S T' ex := by
  unfold LW
  have hx : (xw (k 0) qx S).length = 16 := rfl
  rw [List.set_append_right _ _ (by rw [hx]; omega), hx, Nat.add_sub_cancel_left, List.set_append_left _ _ (by rw [SW_len]; omega), SW_set hi hR h]
/-! arrays over arrays -/
theorem va_aldA {ws : va_W} {tys : List (ClassId × FieldType)} {a : Nat} (hexec : p.tables.exec = Jvm.exec) (hb : c.code = cc) (hK : va_K D vwCl tys s) (hP : va_P D vwCl ws H) (q0 t0 : Nat) {cA : ClassId} {ty : FieldType} {n : Nat} {f : Nat → Option Nat} (ha : ws[q0]? = some (a, .inl (cA, n, refs f))) (ht : tys[t0]? = some (cA, .array ty)) {i : Int32} (hin : vp_in i n) (hdg : decode cc pc = .ok (.aaload, 1))
    (kk : W p l e R s m args below meth c H locs cells slots Q (F0 m (pc + 1) ls (va_rf (f i.toNatClampNeg) :: rest))) : W p l e R s m args below meth c H locs cells slots Q (F0 m pc ls (.int i :: .ref a :: rest)) := by
  have hlt : i.toNatClampNeg < n := Nat.not_le.mp fun q => hin (Or.inr q)
  exact W.aald (v := va_rf (f i.toNatClampNeg)) (ty := .array ty) hexec hb (hP q0 _ ha) ((hK.2 t0 _ ht).1 n (fun j => va_rf (f j))) rfl (fun q => by cases q) (by show ¬ (i < 0 ∨ (arrV _ _ _).slots.size ≤ _); rw [arrV_size]; exact hin) (by show (arrV _ _ _).slots[_]? = _; rw [arrV_read _ _ hlt]) rfl rfl hdg kk
/-! rows of the law's ledger alone (world: SW ..) -/
variable {tf : Nat → Option Nat} {tq : Nat → Nat} {nt : Nat}
theorem s_get (C : Ctx p s m args meth c cc nL own ret) (E : gEL D k s) (hw : gW D ws0 (SW k r tf tq nt T ++ ex) s H locs) (j : Nat) (hj : j < 9) {index : Nat} (hl : Cond.fieldLink own index (TX4 j).1 (TX4 j).2.1 (TX4 j).2.2.1 ∈ XALL) {v : Value} (hv : (sfs r T)[j]? = some v) (hdg : decode cc pc = .ok (.getfield index, 3)) (kk : W p l e R s m args below meth c H locs cells slots Q (F0 m (pc + 3) ls (v :: rest))) : W p l e R s m args below meth c H locs cells slots Q (F0 m pc ls (.ref (r 0) :: rest)) :=
  g_get C E.E (gW_sub1 hw) inW4 0 (SW_at (by omega)) rfl j hj hl hv hdg kk
theorem s_ald (C : Ctx p s m args meth c cc nL own ret) (E : gEL D k s) (hw : gW D ws0 (SW k r tf tq nt T ++ ex) s H locs) (i : Nat) {a n : Nat} (hi : i < 30) (he : swE k r tf tq T i = (r i, .inl (k 0, n, .inl (T a)))) {x v : Int32} (h : ld T a n x = some v) (hdg : decode cc pc = .ok (.iaload, 1)) (kk : W p l e R s m args below meth c H locs cells slots Q (F0 m (pc + 1) ls (.int v :: rest))) : W p l e R s m args below meth c H locs cells slots Q (F0 m pc ls (.int x :: .ref (r i) :: rest)) :=
  g_ald C E.E (gW_sub1 hw) i (by rw [SW_at (by omega), he]) (ld_some h) hdg kk
theorem s_aaO (C : Ctx p s m args meth c cc nL own ret) (E : gEL D k s) (hw : gW D ws0 (SW k r tf tq nt T ++ ex) s H locs) {x : Int32} {j : Nat} (h : ix 24 x = some j) (hdg : decode cc pc = .ok (.aaload, 1)) (kk : W p l e R s m args below meth c H locs cells slots Q (F0 m (pc + 1) ls (.ref (r (6 + j)) :: rest))) : W p l e R s m args below meth c H locs cells slots Q (F0 m pc ls (.int x :: .ref (r 2) :: rest)) := by
  obtain ⟨h1, h2, h3⟩ := ix_some h
  refine va_aldA C.1 C.2.1 E.1 (gW_sub1 hw).1 2 2 (SW_at (by omega)) rfl h1 hdg ?_
  rw [h2]
  exact kk
theorem swE_own {T : St} {j : Nat} (h : j < 24) : swE k r tf tq T (6 + j) = (r (6 + j), .inl (k 1, 16, .inl (T (10 + j)))) := by
  rw [Nat.add_comm 6 j, swE_6, if_pos h, Nat.add_comm 6 j]
theorem s_zald (C : Ctx p s m args meth c cc nL own ret) (E : gEL D k s) (hw : gW D ws0 (SW k r tf tq nt T ++ ex) s H locs) {x v : Int32} {j : Nat} (h : ldO T j x = some v) (hdg : decode cc pc = .ok (.baload, 1)) (kk : W p l e R s m args below meth c H locs cells slots Q (F0 m (pc + 1) ls (.int v :: rest))) : W p l e R s m args below meth c H locs cells slots Q (F0 m pc ls (.int x :: .ref (r (6 + j)) :: rest)) := by
  obtain ⟨h1, h2⟩ := ldO_some h
  obtain ⟨h3, rfl⟩ := ld_some h2
  exact va_zald C.1 C.2.1 E.1 (gW_sub1 hw).1 (6 + j) 1 (by rw [SW_at (by omega), swE_own h1]) rfl h3 hdg kk
theorem s_alen (C : Ctx p s m args meth c cc nL own ret) (E : gEL D k s) (hw : gW D ws0 (SW k r tf tq nt T ++ ex) s H locs) {j : Nat} (h1 : j < 24) (hdg : decode cc pc = .ok (.arraylength, 1)) (kk : W p l e R s m args below meth c H locs cells slots Q (F0 m (pc + 1) ls (.int 16 :: rest))) : W p l e R s m args below meth c H locs cells slots Q (F0 m pc ls (.ref (r (6 + j)) :: rest)) :=
  va_alen C.1 C.2.1 E.1 (gW_sub1 hw).1 (6 + j) 1 (by rw [SW_at (by omega), swE_own h1]) rfl (v := 16) rfl hdg kk
end SIMW
end
section
/-! ROWS OF THE LAW'S WALKS -/
abbrev SN (k : Nat → ClassId) (r : Nat → Nat) (tf : Nat → Option Nat) (tq : Nat → Nat) (nt : Nat) (T : St) : va_W := SW k r tf tq nt T ++ []
theorem SN_e {k : Nat → ClassId} {r : Nat → Nat} {tf : Nat → Option Nat} {tq : Nat → Nat} {nt : Nat} (T : St) : SN k r tf tq nt T = SW k r tf tq nt T := List.append_nil _
theorem SN_adr {k : Nat → ClassId} {r : Nat → Nat} {tf : Nat → Option Nat} {tq : Nat → Nat} {nt : Nat} (T T' : St) : (SN k r tf tq nt T).map Prod.fst = (SN k r tf tq nt T').map Prod.fst := by rw [SN_e, SN_e]; exact SW_adr T T'
theorem SN_0 {k : Nat → ClassId} {r : Nat → Nat} {tf : Nat → Option Nat} {tq : Nat → Nat} {nt : Nat} {T : St} : (SN k r tf tq nt T)[0]? = some (r 0, .inr (4, sfs r T)) := by rw [SN_e]; exact SW_at (by omega)
def rmd (x y : Int32) : Option Int32 := if y = 0 then none else some (x - x / y * y)
theorem rmd_some {x y v : Int32} (h : rmd x y = some v) : ¬ y = 0 ∧ x - x / y * y = v := by
  unfold rmd at h
  split at h
  · cases h
  · rename_i h1
    exact ⟨h1, Option.some.inj h⟩
theorem swE_00 {k : Nat → ClassId} {r : Nat → Nat} {tf : Nat → Option Nat} {tq : Nat → Nat} {T : St} : ∀ j, j < 4 → ∀ v, swE k r tf tq (up T (34 + j) 0 v) 0 = (r 0, .inr (4, (sfs r T).set j (.int v)))
  | 0, _, _ => rfl
  | 1, _, _ => rfl
  | 2, _, _ => rfl
  | 3, _, _ => rfl
  | j + 4, h, _ => absurd h (by omega)
theorem up_oth {T : St} {k j : Nat} {v : Int32} {b : Nat} (h : b ≠ k) : up T k j v b = T b := by unfold up; rw [if_neg h]
theorem up_same (T : St) (k j : Nat) (v : Int32) : up T k j v k = upd (T k) j v := by unfold up; rw [if_pos rfl]
theorem tx4_i : ∀ j, j < 4 → (TX4 j).2.2.2 = false ∧ parseFieldDescriptor (TX4 j).2.2.1 = some .int := by decide +kernel
/-- what an act of the law leaves -/
abbrev GG : Type := (Nat → Option Nat) × (Nat → Nat) × Nat
abbrev gQA (D : va_G) (k : Nat → ClassId) (qx r : Nat → Nat) (r1 : Int32) (S1 T1 : St) (ws0 : va_W) (sz : Nat) : Array Value → State → Outcome → State → Prop :=
  va_Qi (fun (v : Int32) (u : GG) => v = r1 ∧ gok u.1 u.2.1 u.2.2 (T1 36 0)) (fun u t => va_P D vwCl (LW k qx r u.1 u.2.1 u.2.2 S1 T1 []) t.heap ∧ va_D (va_A ws0 sz) (LW k qx r u.1 u.2.1 u.2.2 S1 T1 [])) (va_A ws0 sz)
/-- the rows that 'matches' makes -/
abbrev gQM (D : va_G) (k : Nat → ClassId) (r : Nat → Nat) (tf : Nat → Option Nat) (tq : Nat → Nat) (nt : Nat) (T B : St) (sz : Nat) : Array Value → State → Outcome → State → Prop :=
  va_Qr (fun (_ : Nat → Nat) => True) (fun mq a t => va_P D vwCl (SW k r tf tq nt T ++ mat k a mq (T 36 0).toNatClampNeg (T 35 0).toNatClampNeg B) t.heap ∧ va_D (va_A (SN k r tf tq nt T) sz) (SW k r tf tq nt T ++ mat k a mq (T 36 0).toNatClampNeg (T 35 0).toNatClampNeg B)) (va_A (SN k r tf tq nt T) sz)
def ldM (B : St) (n j N : Nat) (x : Int32) : Option Int32 := if j < n then ld B j N x else none
theorem ldM_some {B : St} {n j N : Nat} {x v : Int32} (h : ldM B n j N x = some v) : j < n ∧ ld B j N x = some v := by
  unfold ldM at h
  split at h
  · rename_i h1
    exact ⟨h1, h⟩
  · cases h
section LAWR
variable {p : Program} {l : Launch} {e : Env} {R : Room} {s : State} {m : MethodId} {args : Array Value} {below : List Frame} {meth : Method} {c : Code} {H : Heap} {locs : List Loc} {cells slots : Nat} {Q : State → Prop}
variable {cc bytes : ByteArray} {nL maxL : Nat} {own : String} {ret rt : Option FieldType} {D : va_G} {k : Nat → ClassId} {qx r : Nat → Nat} {pc : Nat} {ls : Array Slot} {rest st0 : List Value} {ws0 : va_W} {S T : St} {ex : va_W}
variable {As : List Value} {rm : Room} {y : MethodName} {n index : Nat} {Qc : Array Value → State → Outcome → State → Prop} {free : Addr → Prop} {host : String} {b : Nat}
theorem l_irem (C : Ctx p s m args meth c cc nL own ret) {x y v : Int32} (h : rmd x y = some v) (hdg : decode cc pc = .ok (.irem, 1)) (kk : W p l e R s m args below meth c H locs cells slots Q (F0 m (pc + 1) ls (.int v :: rest))) : W p l e R s m args below meth c H locs cells slots Q (F0 m pc ls (.int y :: .int x :: rest)) := by
  obtain ⟨h1, rfl⟩ := rmd_some h
  exact lv_irem C.1 C.2.1 hdg h1 kk
theorem g_runVL (C : Ctx p s m args meth c cc nL own ret) (E : gEL D k s) {ws : va_W} (hw : gW D ws0 ws s H locs) (F : FctV y bytes maxL rt n) (hM : Met l y (Cond.code y bytes maxL rt :: XALL) rm (va_Pc (.ref b :: As) (gPreL D k ws H.size)) Qc rm.cells rm.slots free) (hk : Cond.methodLink own index y ∈ XALL)
    (q0 : Nat) {ci : Nat} {fs : List Value} {T : u_T} {N : Nat} (he : ws[q0]? = some (b, .inr (ci, fs))) (hc : vwCl[ci]? = some (y.cls, T, N)) (hn : As.length = n) (hsize : ls.size = nL) (hst : st0 = As.reverse ++ .ref b :: rest) (hr8 : (rest.map fun v => v.category).sum ≤ 8) (hR : rm.frames + 1 ≤ R.frames ∧ 8 + (maxL + 11) + rm.locals ≤ R.locals) (hf : cells + rm.cells ≤ R.cells ∧ slots + rm.slots ≤ R.slots) (hdg : decode cc pc = .ok (.invokevirtual index, 3)) :
    va_Run p l e R s m args below meth c H locs cells slots rm.cells rm.slots (F0 m pc ls st0) rest (Qc (Value.ref b :: As).toArray) free :=
  va_runV C.fix hM ⟨fct_B C F.1 hk hR, C.2.2.2.2.1 _ F.2.1, C.2.2.2.2.1 _ F.2.2⟩ ⟨gPreL_blind, va_recv (q := (y.cls, T, N)) E.1 hw.1 hc he, fun U hU hW => ⟨rfl, gPreL_of E hw hU hW⟩⟩ rfl hn hsize hst (lv_room hr8) hdg hf
theorem g_runSL (C : Ctx p s m args meth c cc nL own ret) (E : gEL D k s) {ws : va_W} (hw : gW D ws0 ws s H locs) (F : FctS y bytes maxL rt n) (hM : Met l y (Cond.code y bytes maxL rt :: XALL) rm (va_Pc As (gPreL D k ws H.size)) Qc rm.cells rm.slots free) (hk : Cond.methodLink own index y ∈ XALL)
    (hn : As.length = n) (hsize : ls.size = nL) (hst : st0 = As.reverse ++ rest) (hr8 : (rest.map fun v => v.category).sum ≤ 8) (hR : rm.frames + 1 ≤ R.frames ∧ 8 + (maxL + 11) + rm.locals ≤ R.locals) (hf : cells + rm.cells ≤ R.cells ∧ slots + rm.slots ≤ R.slots) (hdg : decode cc pc = .ok (.invokestatic index, 3)) :
    va_Run p l e R s m args below meth c H locs cells slots rm.cells rm.slots (F0 m pc ls st0) rest (Qc As.toArray) free :=
  va_runS C.fix hM ⟨fct_B C F.1 hk hR, C.2.2.2.2.1 _ F.2⟩ ⟨gPreL_blind, fun U hU hW => ⟨rfl, gPreL_of E hw hU hW⟩⟩ rfl hn hsize hst (lv_room hr8) hdg hf
theorem l_get (C : Ctx p s m args meth c cc nL own ret) (E : gEL D k s) (hw : gS D ws0 k qx r S T ex s H locs) (j : Nat) (hj : j < 9) {index : Nat} (hl : Cond.fieldLink own index (TX4 j).1 (TX4 j).2.1 (TX4 j).2.2.1 ∈ XALL) {v : Value} (hv : (sfs r T)[j]? = some v) (hdg : decode cc pc = .ok (.getfield index, 3)) (kk : W p l e R s m args below meth c H locs cells slots Q (F0 m (pc + 3) ls (v :: rest))) : W p l e R s m args below meth c H locs cells slots Q (F0 m pc ls (.ref (r 0) :: rest)) := by
  obtain ⟨tf, tq, nt, hg, hw⟩ := hw
  exact s_get C E (LW_sw hw) j hj hl hv hdg kk
theorem l_ald (C : Ctx p s m args meth c cc nL own ret) (E : gEL D k s) (hw : gS D ws0 k qx r S T ex s H locs) (i : Nat) {a n : Nat} (hi : i < 30) (he : ∀ tf tq, swE k r tf tq T i = (r i, .inl (k 0, n, .inl (T a)))) {x v : Int32} (h : ld T a n x = some v) (hdg : decode cc pc = .ok (.iaload, 1)) (kk : W p l e R s m args below meth c H locs cells slots Q (F0 m (pc + 1) ls (.int v :: rest))) : W p l e R s m args below meth c H locs cells slots Q (F0 m pc ls (.int x :: .ref (r i) :: rest)) := by
  obtain ⟨tf, tq, nt, hg, hw⟩ := hw
  exact s_ald C E (LW_sw hw) i hi (he _ _) h hdg kk
theorem l_aaO (C : Ctx p s m args meth c cc nL own ret) (E : gEL D k s) (hw : gS D ws0 k qx r S T ex s H locs) {x : Int32} {j : Nat} (h : ix 24 x = some j) (hdg : decode cc pc = .ok (.aaload, 1)) (kk : W p l e R s m args below meth c H locs cells slots Q (F0 m (pc + 1) ls (.ref (r (6 + j)) :: rest))) : W p l e R s m args below meth c H locs cells slots Q (F0 m pc ls (.int x :: .ref (r 2) :: rest)) := by
  obtain ⟨tf, tq, nt, hg, hw⟩ := hw
  exact s_aaO C E (LW_sw hw) h hdg kk
theorem l_zald (C : Ctx p s m args meth c cc nL own ret) (E : gEL D k s) (hw : gS D ws0 k qx r S T ex s H locs) {x v : Int32} {j : Nat} (h : ldO T j x = some v) (hdg : decode cc pc = .ok (.baload, 1)) (kk : W p l e R s m args below meth c H locs cells slots Q (F0 m (pc + 1) ls (.int v :: rest))) : W p l e R s m args below meth c H locs cells slots Q (F0 m pc ls (.int x :: .ref (r (6 + j)) :: rest)) := by
  obtain ⟨tf, tq, nt, hg, hw⟩ := hw
  exact s_zald C E (LW_sw hw) h hdg kk
theorem l_put (C : Ctx p s m args meth c cc nL own ret) (E : gEL D k s) (hw : gS D ws0 k qx r S T ex s H locs) (j : Nat) (hj : j < 4) {index : Nat} (hl : Cond.fieldLink own index (TX4 j).1 (TX4 j).2.1 (TX4 j).2.2.1 ∈ XALL) {v : Int32} (h2 : j = 2 → v = 0) {T' : St} (h : some (up T (34 + j) 0 v) = some T') (hdg : decode cc pc = .ok (.putfield index, 3))
    (kk : ∀ (H : Heap) (locs : List Loc), gS D ws0 k qx r S T' ex s H locs → W p l e R s m args below meth c H locs cells slots Q (F0 m (pc + 3) ls rest)) : W p l e R s m args below meth c H locs cells slots Q (F0 m pc ls (.int v :: .ref (r 0) :: rest)) := by
  obtain ⟨tf, tq, nt, hg, hw⟩ := hw
  have h := Option.some.inj h
  subst h
  have hset := LW_set (k := k) (qx := qx) (r := r) (S := S) (ex := ex) (tf := tf) (tq := tq) (nt := nt) (i := 0) (T := T) (T' := up T (34 + j) 0 v) (a := 34 + j) (by omega) (Or.inl ⟨rfl, by omega, by omega⟩) (fun b hb => up_oth hb)
  rw [swE_00 j hj v] at hset
  refine g_put C E.E hw inW4 tyX4 tyX4_ok nmX4 16 (fs := sfs r T) (LW_at (i := 0) (by omega)) rfl j (by omega) hl (tx4_i j hj).1 (tx4_i j hj).2 (by show j < 9; omega) hset hdg (fun H locs hw => kk H locs ⟨tf, tq, nt, ⟨hg.1, ?_, hg.2.2⟩, hw⟩)
  by_cases h3 : j = 2
  · rw [h2 h3]
    subst h3
    exact Nat.zero_le _
  · rw [up_oth (show 36 ≠ 34 + j by omega)]
    exact hg.2.1
theorem l_ast (C : Ctx p s m args meth c cc nL own ret) (E : gEL D k s) (hw : gS D ws0 k qx r S T ex s H locs) (i : Nat) {n : Nat} (hi : i < 30) (hR : i = 1 ∨ i = 3 ∨ i = 4) (he : ∀ tf tq Z, swE k r tf tq Z i = (r i, .inl (k 0, n, .inl (Z i)))) {x v : Int32} {T' : St} (h : sto T i n x v = some T') (hdg : decode cc pc = .ok (.iastore, 1))
    (kk : ∀ (H : Heap) (locs : List Loc), gS D ws0 k qx r S T' ex s H locs → W p l e R s m args below meth c H locs cells slots Q (F0 m (pc + 1) ls rest)) : W p l e R s m args below meth c H locs cells slots Q (F0 m pc ls (.int v :: .int x :: .ref (r i) :: rest)) := by
  obtain ⟨tf, tq, nt, hg, hw⟩ := hw
  obtain ⟨h1, rfl⟩ := sto_some h
  have hset := LW_set (k := k) (qx := qx) (r := r) (S := S) (ex := ex) (tf := tf) (tq := tq) (nt := nt) (i := i) (T := T) (T' := up T i x.toNatClampNeg v) (a := i) hi (Or.inr (Or.inl ⟨rfl, hR⟩)) (fun b hb => up_oth hb)
  rw [he, up_same] at hset
  refine g_ast C E.E hw (16 + i) (by rw [LW_at (by omega), he]) h1 hset hdg (fun H locs hw => kk H locs ⟨tf, tq, nt, ?_, hw⟩)
  rw [up_oth (show 36 ≠ i by omega)]
  exact hg
theorem l_zast (C : Ctx p s m args meth c cc nL own ret) (E : gEL D k s) (hw : gS D ws0 k qx r S T ex s H locs) {x v : Int32} (hv : vp_nar .boolean v = v) {j : Nat} {T' : St} (h : stoO T j x v = some T') (hdg : decode cc pc = .ok (.bastore, 1))
    (kk : ∀ (H : Heap) (locs : List Loc), gS D ws0 k qx r S T' ex s H locs → W p l e R s m args below meth c H locs cells slots Q (F0 m (pc + 1) ls rest)) : W p l e R s m args below meth c H locs cells slots Q (F0 m pc ls (.int v :: .int x :: .ref (r (6 + j)) :: rest)) := by
  obtain ⟨tf, tq, nt, hg, hw⟩ := hw
  obtain ⟨h0, h⟩ := stoO_some h
  obtain ⟨h1, rfl⟩ := sto_some h
  have hset := LW_set (k := k) (qx := qx) (r := r) (S := S) (ex := ex) (tf := tf) (tq := tq) (nt := nt) (i := 6 + j) (T := T) (T' := up T (10 + j) x.toNatClampNeg v) (a := 10 + j) (by omega) (Or.inr (Or.inr ⟨j, h0, rfl, rfl⟩)) (fun b hb => up_oth hb)
  rw [swE_own h0, up_same] at hset
  refine va_zast C.1 C.2.1 E.1 hw.1 hw.2.1 hw.2.2 (16 + (6 + j)) 1 (by rw [LW_at (by omega), swE_own h0]) rfl h1 hdg (fun H1 locs1 hP hD hS => kk H1 locs1 ⟨tf, tq, nt, ?_, ?_⟩)
  · rw [up_oth (show 36 ≠ 10 + j by omega)]
    exact hg
  · rw [hv, hset] at hP hD
    exact ⟨hP, hD, hS⟩
/-! calls -/
theorem l_xi (C : Ctx p s m args meth c cc nL own ret) (E : gEL D k s) (hw : gS D ws0 k qx r S T ex s H locs) (F : FctV y bytes maxL rt n) (hy : y.cls = RX3) {r1 : Int32} {S1 : St} (hM : ∀ sz, Met l y (Cond.code y bytes maxL rt :: XALL) rm (va_Pc (.ref (qx 0) :: As) (gPre D (k 0) (xw (k 0) qx S) sz)) (gQi D (xw (k 0) qx) S (fun v u => v = r1 ∧ u = S1) sz) rm.cells rm.slots (va_A (xw (k 0) qx S) sz)) (hk : Cond.methodLink own index y ∈ XALL)
    (hn : As.length = n) (hsize : ls.size = nL) (hst : st0 = As.reverse ++ .ref (qx 0) :: rest) (hr8 : (rest.map fun v => v.category).sum ≤ 8) (hR : rm.frames + 1 ≤ R.frames ∧ 8 + (maxL + 11) + rm.locals ≤ R.locals) (hf : cells + rm.cells ≤ R.cells ∧ slots + rm.slots ≤ R.slots) (hdg : decode cc pc = .ok (.invokevirtual index, 3))
    (kk : ∀ (H : Heap) (locs : List Loc), gS D ws0 k qx r S1 T ex s H locs → W p l e R s m args below meth c H locs (cells + rm.cells) (slots + rm.slots) Q (F0 m (pc + 3) ls (.int r1 :: rest))) : W p l e R s m args below meth c H locs cells slots Q (F0 m pc ls st0) := by
  obtain ⟨tf, tq, nt, hg, hw⟩ := hw
  have hr := g_runV (e := e) (below := below) (T := TX3) (N := 9) C E.E (gW_sub1 hw) F (hM _) hk 0 rfl (by rw [hy]; rfl) hn hsize hst hr8 hR hf hdg
  have hA := (gW_sub1 hw).A
  refine va_calli hr hw.2.2 (fun q _ h => hA q h) hA (fun v u t H1 locs1 ht _ hp hB _ hkq hS => ?_)
  obtain ⟨rfl, rfl⟩ := hp
  rw [ht] at hB
  exact kk H1 locs1 ⟨tf, tq, nt, hg, gW_part hw (xw_adr _ _) hB hkq hS⟩
theorem l_xd (C : Ctx p s m args meth c cc nL own ret) (E : gEL D k s) (hw : gS D ws0 k qx r S T ex s H locs) (F : FctV y bytes maxL rt n) (hy : y.cls = RX3) {r1 : UInt64} {S1 : St} (hM : ∀ sz, Met l y (Cond.code y bytes maxL rt :: XALL) rm (va_Pc (.ref (qx 0) :: As) (gPre D (k 0) (xw (k 0) qx S) sz)) (gQd D (xw (k 0) qx) S (fun v u => v = r1 ∧ u = S1) sz) rm.cells rm.slots (va_A (xw (k 0) qx S) sz)) (hk : Cond.methodLink own index y ∈ XALL)
    (hn : As.length = n) (hsize : ls.size = nL) (hst : st0 = As.reverse ++ .ref (qx 0) :: rest) (hr8 : (rest.map fun v => v.category).sum ≤ 8) (hR : rm.frames + 1 ≤ R.frames ∧ 8 + (maxL + 11) + rm.locals ≤ R.locals) (hf : cells + rm.cells ≤ R.cells ∧ slots + rm.slots ≤ R.slots) (hdg : decode cc pc = .ok (.invokevirtual index, 3))
    (kk : ∀ (H : Heap) (locs : List Loc), gS D ws0 k qx r S1 T ex s H locs → W p l e R s m args below meth c H locs (cells + rm.cells) (slots + rm.slots) Q (F0 m (pc + 3) ls (.double r1 :: rest))) : W p l e R s m args below meth c H locs cells slots Q (F0 m pc ls st0) := by
  obtain ⟨tf, tq, nt, hg, hw⟩ := hw
  have hr := g_runV (e := e) (below := below) (T := TX3) (N := 9) C E.E (gW_sub1 hw) F (hM _) hk 0 rfl (by rw [hy]; rfl) hn hsize hst hr8 hR hf hdg
  have hA := (gW_sub1 hw).A
  refine va_calld hr hw.2.2 (fun q _ h => hA q h) hA (fun v u t H1 locs1 ht _ hp hB _ hkq hS => ?_)
  obtain ⟨rfl, rfl⟩ := hp
  rw [ht] at hB
  exact kk H1 locs1 ⟨tf, tq, nt, hg, gW_part hw (xw_adr _ _) hB hkq hS⟩
/-- a method of the law's ledger that looks -/
theorem l_si (C : Ctx p s m args meth c cc nL own ret) (E : gEL D k s) (hw : gS D ws0 k qx r S T ex s H locs) (F : FctV y bytes maxL rt n) (hy : y.cls = RX4) {r1 : Int32} (hM : ∀ tf tq nt sz, Met l y (Cond.code y bytes maxL rt :: XALL) rm (va_Pc (.ref (r 0) :: As) (gPreL D k (SN k r tf tq nt T) sz)) (gQi D (SN k r tf tq nt) T (fun v u => v = r1 ∧ u = T) sz) rm.cells rm.slots (va_A (SN k r tf tq nt T) sz)) (hk : Cond.methodLink own index y ∈ XALL)
    (hn : As.length = n) (hsize : ls.size = nL) (hst : st0 = As.reverse ++ .ref (r 0) :: rest) (hr8 : (rest.map fun v => v.category).sum ≤ 8) (hR : rm.frames + 1 ≤ R.frames ∧ 8 + (maxL + 11) + rm.locals ≤ R.locals) (hf : cells + rm.cells ≤ R.cells ∧ slots + rm.slots ≤ R.slots) (hdg : decode cc pc = .ok (.invokevirtual index, 3))
    (kk : ∀ (H : Heap) (locs : List Loc), gS D ws0 k qx r S T ex s H locs → W p l e R s m args below meth c H locs (cells + rm.cells) (slots + rm.slots) Q (F0 m (pc + 3) ls (.int r1 :: rest))) : W p l e R s m args below meth c H locs cells slots Q (F0 m pc ls st0) := by
  obtain ⟨tf, tq, nt, hg, hw⟩ := hw
  have hw2 := LW_sw hw
  have hw3 : gW D ws0 (SN k r tf tq nt T) s H locs := by rw [SN_e]; exact gW_sub1 hw2
  have hr := g_runVL (e := e) (below := below) (T := TX4) (N := 9) C E hw3 F (hM tf tq nt _) hk 0 SN_0 (by rw [hy]; rfl) hn hsize hst hr8 hR hf hdg
  have hA := hw3.A
  refine va_calli hr hw.2.2 (fun q _ h => hA q h) hA (fun v u t H1 locs1 ht _ hp hB _ hkq hS => ?_)
  obtain ⟨rfl, rfl⟩ := hp
  rw [ht, SN_e] at hB
  rw [SN_e] at hkq
  exact kk H1 locs1 ⟨tf, tq, nt, hg, LW_ofsw (gW_part hw2 (SW_adr _ _) hB hkq hS)⟩
/-- a static method without a world -/
theorem l_0i (C : Ctx p s m args meth c cc nL own ret) (hw : gS D ws0 k qx r S T ex s H locs) (F : FctS y bytes maxL rt n) {r1 : Int32} (hM : Met l y (Cond.code y bytes maxL rt :: XALL) rm (va_Pc As (fun _ => True)) (zQi r1) rm.cells rm.slots (fun _ => False)) (hk : Cond.methodLink own index y ∈ XALL)
    (hn : As.length = n) (hsize : ls.size = nL) (hst : st0 = As.reverse ++ rest) (hr8 : (rest.map fun v => v.category).sum ≤ 8) (hR : rm.frames + 1 ≤ R.frames ∧ 8 + (maxL + 11) + rm.locals ≤ R.locals) (hf : cells + rm.cells ≤ R.cells ∧ slots + rm.slots ≤ R.slots) (hdg : decode cc pc = .ok (.invokestatic index, 3))
    (kk : ∀ (H : Heap) (locs : List Loc), gS D ws0 k qx r S T ex s H locs → W p l e R s m args below meth c H locs (cells + rm.cells) (slots + rm.slots) Q (F0 m (pc + 3) ls (.int r1 :: rest))) : W p l e R s m args below meth c H locs cells slots Q (F0 m pc ls st0) := by
  obtain ⟨tf, tq, nt, hg, hw⟩ := hw
  exact g_ci0e hw (g_run0 C F hM hk hn hsize hst hr8 hR hf hdg) (fun H locs hw => kk H locs ⟨tf, tq, nt, hg, hw⟩)
/-- an act -/
theorem l_act (C : Ctx p s m args meth c cc nL own ret) (E : gEL D k s) (hw : gS D ws0 k qx r S T [] s H locs) (F : FctS y bytes maxL rt n) {r1 : Int32} {S1 T1 : St} (hM : ∀ tf tq nt sz, gok tf tq nt (T 36 0) → Met l y (Cond.code y bytes maxL rt :: XALL) rm (va_Pc As (gPreL D k (LW k qx r tf tq nt S T []) sz)) (gQA D k qx r r1 S1 T1 (LW k qx r tf tq nt S T []) sz) rm.cells rm.slots (va_A (LW k qx r tf tq nt S T []) sz)) (hk : Cond.methodLink own index y ∈ XALL)
    (hn : As.length = n) (hsize : ls.size = nL) (hst : st0 = As.reverse ++ rest) (hr8 : (rest.map fun v => v.category).sum ≤ 8) (hR : rm.frames + 1 ≤ R.frames ∧ 8 + (maxL + 11) + rm.locals ≤ R.locals) (hf : cells + rm.cells ≤ R.cells ∧ slots + rm.slots ≤ R.slots) (hdg : decode cc pc = .ok (.invokestatic index, 3))
    (kk : ∀ (H : Heap) (locs : List Loc), gS D ws0 k qx r S1 T1 [] s H locs → W p l e R s m args below meth c H locs (cells + rm.cells) (slots + rm.slots) Q (F0 m (pc + 3) ls (.int r1 :: rest))) : W p l e R s m args below meth c H locs cells slots Q (F0 m pc ls st0) := by
  obtain ⟨tf, tq, nt, hg, hw⟩ := hw
  have hr := g_runSL (e := e) (below := below) C E hw F (hM tf tq nt _ hg) hk hn hsize hst hr8 hR hf hdg
  have hA := hw.A
  refine va_calli hr hw.2.2 (fun q _ h => hA q h) hA (fun v u t H1 locs1 ht _ hp hB _ hkq hS => ?_)
  obtain ⟨rfl, hg2⟩ := hp
  obtain ⟨hP1, hD1⟩ := hB
  rw [ht] at hP1
  exact kk H1 locs1 ⟨u.1, u.2.1, u.2.2, hg2, hP1, hD1.weaken (fun _ _ _ h => hA _ h), hS⟩
theorem gS_drop (hw : gS D ws0 k qx r S T ex s H locs) : gS D ws0 k qx r S T [] s H locs := by
  obtain ⟨tf, tq, nt, hg, hw⟩ := hw
  refine ⟨tf, tq, nt, hg, ?_⟩
  unfold LW at hw ⊢
  rw [← List.append_assoc] at hw
  rw [List.append_nil]
  exact gW_sub1 hw
theorem l_aret (C : Ctx p s m args meth c cc nL own (some .boolean)) {S1 T1 : St} (hw : gS D ws0 k qx r S1 T1 ex s H locs) {mc ms : Nat} (hc : cells ≤ mc) (hs : slots ≤ ms) {v r1 : Int32} (hv : v = 0 ∨ v = 1) (hp : v = r1) (hdg : decode cc pc = .ok (.ireturn, 1)) :
    W p l e R s m args below meth c H locs cells slots (MQ below (gQA D k qx r r1 S1 T1 ws0 s.heap.size) args s mc ms (va_A ws0 s.heap.size)) (F0 m pc ls [.int v]) := by
  obtain ⟨tf, tq, nt, hg, hw⟩ := gS_drop hw
  exact W.widen hc hs (W.zret C.1 C.2.1 C.2.2.2.2.2.1 (zg_nar hv) (fun t ht hW => ⟨⟨v, (tf, tq, nt), rfl, ⟨hp, hg⟩, by rw [ht]; exact hw.1, hw.2.1⟩, hw.F ht⟩) hw.2.2.2.2 hdg C.2.2.2.2.2.2)
theorem l_bret (C : Ctx p s m args meth c cc nL own (some .boolean)) (hw : gS D ws0 k qx r S T ex s H locs) {mc ms : Nat} (hc : cells ≤ mc) (hs : slots ≤ ms) {v r1 : Int32} (hv : v = 0 ∨ v = 1) (hp : v = r1) (hdg : decode cc pc = .ok (.ireturn, 1)) :
    W p l e R s m args below meth c H locs cells slots (MQ below (va_Qi (fun (x : Int32) (_ : Unit) => x = r1) (fun _ _ => True) (va_A ws0 s.heap.size)) args s mc ms (va_A ws0 s.heap.size)) (F0 m pc ls [.int v]) := by
  obtain ⟨tf, tq, nt, hg, hw⟩ := hw
  exact W.widen hc hs (W.zret C.1 C.2.1 C.2.2.2.2.2.1 (zg_nar hv) (fun t ht hW => ⟨⟨v, (), rfl, hp, trivial⟩, hw.F ht⟩) hw.2.2.2.2 hdg C.2.2.2.2.2.2)
/-! a row of ints beside the world -/
theorem l_newa (C : Ctx p s m args meth c cc nL own ret) (E : gEL D k s) (hw : gS D ws0 k qx r S T [] s H locs) {n : Int32} (N : Nat) (hn : ¬ n < 0) (hN : n.toNatClampNeg = N) (hb : N * componentBytes .int ≤ 536870912) (hc : cells + 1 ≤ R.cells) (hs : slots + N ≤ R.slots) (hdg : decode cc pc = .ok (.newarray .int, 2))
    (kk : ∀ (qa : Nat) (H : Heap) (locs : List Loc), gS D ws0 k qx r S T [(qa, .inl (k 0, N, .inl (fun _ => 0)))] s H locs → W p l e R s m args below meth c H locs (cells + 1) (slots + N) Q (F0 m (pc + 2) ls (.ref qa :: rest))) : W p l e R s m args below meth c H locs cells slots Q (F0 m pc ls (.int n :: rest)) := by
  obtain ⟨tf, tq, nt, hg, hw⟩ := hw
  refine va_newa (atype := .int) C.1 C.2.1 (C.2.2.2.2.1 _ ka_int) (ty := .int) rfl E.1 hw.1 hw.2.1 hw.2.2 (fun _ h => Or.inr h) (N' := N) (a0 := (N, .inl (fun _ => 0))) (fun _ => rfl) hn hN hb hc hs hdg ?_
  intro qn cA H1 hK hP hD hS
  have h1 : s.vm.findClass ("[" ++ (FieldType.int).toString) = some cA := (hK.2 4 (cA, .int) rfl).2
  have h2 : s.vm.findClass ("[" ++ (FieldType.int).toString) = some (k 0) := (hK.2 0 (k 0, .int) rfl).2
  have h3 : cA = k 0 := Option.some.inj (h1.symm.trans h2)
  subst h3
  unfold LW at hP hD
  rw [List.append_assoc, List.append_assoc] at hP hD
  exact kk qn H1 locs ⟨tf, tq, nt, hg, hP, hD, hS⟩
theorem LW_last {tf : Nat → Option Nat} {tq : Nat → Nat} {nt : Nat} {x : Nat × va_E} : (LW k qx r tf tq nt S T [x])[46 + nt]? = some x := by
  unfold LW
  have hx : (xw (k 0) qx S).length = 16 := rfl
  rw [List.getElem?_append_right (by rw [hx]; omega), hx, List.getElem?_append_right (by rw [SW_len]; omega), SW_len, show 46 + nt - 16 - (30 + nt) = 0 by omega]
  rfl
theorem LW_lset {tf : Nat → Option Nat} {tq : Nat → Nat} {nt : Nat} {x z : Nat × va_E} : (LW k qx r tf tq nt S T [x]).set (46 + nt) z = LW k qx r tf tq nt S T [z] := by
  unfold LW
  have hx : (xw (k 0) qx S).length = 16 := rfl
  rw [List.set_append_right _ _ (by rw [hx]; omega), hx, List.set_append_right _ _ (by rw [SW_len]; omega), SW_len, show 46 + nt - 16 - (30 + nt) = 0 by omega]
  rfl
theorem l_xld (C : Ctx p s m args meth c cc nL own ret) (E : gEL D k s) {qa N : Nat} {A : Nat → Int32} (hw : gS D ws0 k qx r S T [(qa, .inl (k 0, N, .inl A))] s H locs) {x v : Int32} (h : vp_in x N ∧ A x.toNatClampNeg = v) (hdg : decode cc pc = .ok (.iaload, 1)) (kk : W p l e R s m args below meth c H locs cells slots Q (F0 m (pc + 1) ls (.int v :: rest))) : W p l e R s m args below meth c H locs cells slots Q (F0 m pc ls (.int x :: .ref qa :: rest)) := by
  obtain ⟨tf, tq, nt, hg, hw⟩ := hw
  exact g_ald C E.E hw (46 + nt) LW_last h hdg kk
theorem l_xst (C : Ctx p s m args meth c cc nL own ret) (E : gEL D k s) {qa N : Nat} {A : Nat → Int32} (hw : gS D ws0 k qx r S T [(qa, .inl (k 0, N, .inl A))] s H locs) {x v : Int32} (h : vp_in x N) (hdg : decode cc pc = .ok (.iastore, 1))
    (kk : ∀ (H : Heap) (locs : List Loc), gS D ws0 k qx r S T [(qa, .inl (k 0, N, .inl (upd A x.toNatClampNeg v)))] s H locs → W p l e R s m args below meth c H locs cells slots Q (F0 m (pc + 1) ls rest)) : W p l e R s m args below meth c H locs cells slots Q (F0 m pc ls (.int v :: .int x :: .ref qa :: rest)) := by
  obtain ⟨tf, tq, nt, hg, hw⟩ := hw
  exact g_ast C E.E hw (46 + nt) LW_last h LW_lset hdg (fun H locs hw => kk H locs ⟨tf, tq, nt, hg, hw⟩)
end LAWR
end
section
theorem F_X4_isBelow : FctV yX4_isBelow cX4_isBelow 4 (some .boolean) 2 := ⟨⟨kc_yX4_isBelow, kz_X4, by decide +kernel, by decide +kernel, by decide +kernel⟩, ki_yX4_isBelow, ks_yX4_isBelow⟩
def fX4_isBelow_7 (S : St) (x2 : Int32) : Nat → Int32 → Option Int32
  | 0, _ => none
  | n + 1, x3 =>
    if x3 < 0 then
      some 0
    else
      if x3 = x2 then
        some 1
      else
        Option.bind (ld S 1 16 x3) fun v_2 =>
        fX4_isBelow_7 S x2 n v_2
set_option maxHeartbeats 4000000 in
set_option maxRecDepth 100000 in
theorem wX4_isBelow_7 {p : Program} {l : Launch} {e : Env} {s : State} {m : MethodId} {args : Array Value} {below : List Frame} {meth : Method} {c : Code} {D : va_G} {k : Nat → ClassId} {r : Nat → Nat} {tf : Nat → Option Nat} {tq : Nat → Nat} {nt : Nat} (C : Ctx p s m args meth c cX4_isBelow 4 RX4 (some .boolean)) (E : gEL D k s) {r1 : Int32} (S : St) (x2 : Int32) : ∀ (n : Nat) (x3 : Int32), fX4_isBelow_7 S x2 n x3 = some r1 → ∀ (H : Heap) (locs : List Loc) (ls : Array Slot), gW D ((SN k r tf tq nt) S) ((SN k r tf tq nt) S) s H locs → lv_has ls 4 [(0, .ref (r 0)), (2, .int x2), (3, .int x3)] → W p l e ({ frames := 0, cells := 0, slots := 0, locals := 0 } : Room) s m args below meth c H locs 0 0 (MQ below (gQi D (SN k r tf tq nt) S (fun (r : Int32) (u : St) => r = r1 ∧ u = S) s.heap.size) args s 0 0 (va_A ((SN k r tf tq nt) S) s.heap.size)) (F0 m 7 ls []) := by
  intro n
  induction n with
  | zero => intro x3 hf; rw [fX4_isBelow_7] at hf; cases hf
  | succ n ih =>
    intro x3 hf H locs ls hw hl
    rw [fX4_isBelow_7] at hf
    refine lv_iload_n C.1 C.2.1 dX4_isBelow_7 rfl (lv_at hl 2 rfl) ?_
    refine lv_if_lt (tgt := 28) C.1 C.2.1 dX4_isBelow_8 (by decide) (fun hc => ?_) (fun hc => ?_)
    · have hf := ift hc hf
      refine lv_iconst (v := 0) C.1 C.2.1 dX4_isBelow_28 (by decide) ?_
      exact g_zret C hw (Nat.le_of_ble_eq_true rfl) (Nat.le_of_ble_eq_true rfl) (Or.inl rfl) ⟨Option.some.inj hf, rfl⟩ dX4_isBelow_29
    · have hf := iff_ hc hf
      refine lv_iload_n C.1 C.2.1 dX4_isBelow_11 rfl (lv_at hl 2 rfl) ?_
      refine lv_iload_n C.1 C.2.1 dX4_isBelow_12 rfl (lv_at hl 1 rfl) ?_
      refine lv_icmp_ne (tgt := 18) C.1 C.2.1 dX4_isBelow_13 (by decide) (fun hc => ?_) (fun hc => ?_)
      · have hf := iff_ hc hf
        refine lv_aload_n C.1 C.2.1 dX4_isBelow_18 rfl (lv_at hl 0 rfl) ?_
        refine s_get C E hw 4 (by decide) kf_X4_7 rfl dX4_isBelow_19 ?_
        refine lv_iload_n C.1 C.2.1 dX4_isBelow_22 rfl (lv_at hl 2 rfl) ?_
        obtain ⟨v_2, hv_2, hf⟩ := bnd hf
        refine s_ald C E hw 1 (by decide) rfl hv_2 dX4_isBelow_23 ?_
        refine lv_istore_n (lv' := [(3, .int v_2), (0, .ref (r 0)), (2, .int x2)]) C.1 C.2.1 dX4_isBelow_24 rfl hl (by decide) rfl (fun ls hl => ?_)
        refine lv_goto (tgt := 7) C.1 C.2.1 dX4_isBelow_25 (by decide) ?_
        exact ih v_2 hf _ _ _ hw (lv_sub hl [1, 2, 0] rfl)
      · have hf := ift hc hf
        refine lv_iconst (v := 1) C.1 C.2.1 dX4_isBelow_16 (by decide) ?_
        exact g_zret C hw (Nat.le_of_ble_eq_true rfl) (Nat.le_of_ble_eq_true rfl) (Or.inr rfl) ⟨Option.some.inj hf, rfl⟩ dX4_isBelow_17
def fX4_isBelow (S : St) (x1 : Int32) (x2 : Int32) : Option Int32 :=
  Option.bind (ld S 1 16 x1) fun v_1 =>
  fX4_isBelow_7 S x2 100 v_1
set_option maxHeartbeats 4000000 in
set_option maxRecDepth 100000 in
theorem ctX4_isBelow (l : Launch) {D : va_G} {k : Nat → ClassId} {r : Nat → Nat} {tf : Nat → Option Nat} {tq : Nat → Nat} {nt : Nat} (S : St) (x1 : Int32) (x2 : Int32) (sz : Nat) {r1 : Int32} (hf : fX4_isBelow S x1 x2 = some r1) : Met l yX4_isBelow (Cond.code yX4_isBelow cX4_isBelow 4 (some .boolean) :: XALL) ({ frames := 0, cells := 0, slots := 0, locals := 0 } : Room) (va_Pc [.ref (r 0), .int x1, .int x2] (gPreL D k ((SN k r tf tq nt) S) sz)) (gQi D (SN k r tf tq nt) S (fun (r : Int32) (u : St) => r = r1 ∧ u = S) sz) 0 0 (va_A ((SN k r tf tq nt) S) sz) := by
  unfold fX4_isBelow at hf
  refine Met.ofW (cc := cX4_isBelow) (maxL := 4) (ret := (some .boolean)) (by decide) rfl ?_
  intro p e s m args below meth c s₁ B hml hv
  obtain ⟨rfl, hg⟩ := hv
  have C : Ctx p s m _ meth c cX4_isBelow 4 RX4 (some .boolean) := Ctx.of B hml rfl
  obtain ⟨E, hw, hsz⟩ := gL_start hg
  subst hsz
  have hl := lv_entry ([.ref (r 0), .int x1, .int x2]) (n := 4) (Nat.le_of_ble_eq_true rfl)
  rw [lg_entry_eq]
  generalize (lg_sl ([.ref (r 0), .int x1, .int x2]) ++ List.replicate (4 - (lg_sl ([.ref (r 0), .int x1, .int x2])).length) Slot.unset).toArray = ls at hl ⊢
  have hl : lv_has ls 4 [(0, .ref (r 0)), (1, .int x1), (2, .int x2)] := hl
  refine lv_aload_n C.1 C.2.1 dX4_isBelow_0 rfl (lv_at hl 0 rfl) ?_
  refine s_get C E hw 4 (by decide) kf_X4_7 rfl dX4_isBelow_1 ?_
  refine lv_iload_n C.1 C.2.1 dX4_isBelow_4 rfl (lv_at hl 1 rfl) ?_
  obtain ⟨v_1, hv_1, hf⟩ := bnd hf
  refine s_ald C E hw 1 (by decide) rfl hv_1 dX4_isBelow_5 ?_
  refine lv_istore_n (lv' := [(3, .int v_1), (0, .ref (r 0)), (1, .int x1), (2, .int x2)]) C.1 C.2.1 dX4_isBelow_6 rfl hl (by decide) rfl (fun ls hl => ?_)
  exact wX4_isBelow_7 C E S x2 100 v_1 hf _ _ _ hw (lv_sub hl [1, 3, 0] rfl)
theorem F_X4_hasTag : FctV yX4_hasTag cX4_hasTag 4 (some .boolean) 2 := ⟨⟨kc_yX4_hasTag, kz_X4, by decide +kernel, by decide +kernel, by decide +kernel⟩, ki_yX4_hasTag, ks_yX4_hasTag⟩
def fX4_hasTag_2 (S : St) (x1 : Int32) (x2 : Int32) : Nat → Int32 → Option Int32
  | 0, _ => none
  | n + 1, x3 =>
    if (S 34 0) ≤ x3 then
      some 0
    else
      Option.bind (ix 24 x1) fun j_1 =>
      Option.bind (ldO S j_1 x3) fun v_2 =>
      if v_2 = 0 then
        Option.bind (some (x3 + 1)) fun x3_3 =>
        fX4_hasTag_2 S x1 x2 n x3_3
      else
        if x3 = x2 then
          some 1
        else
          Option.bind (fX4_isBelow S x3 x2) fun v_4 =>
          if v_4 = 0 then
            Option.bind (some (x3 + 1)) fun x3_5 =>
            fX4_hasTag_2 S x1 x2 n x3_5
          else
            some 1
set_option maxHeartbeats 4000000 in
set_option maxRecDepth 100000 in
theorem wX4_hasTag_2 {p : Program} {l : Launch} {e : Env} {s : State} {m : MethodId} {args : Array Value} {below : List Frame} {meth : Method} {c : Code} {D : va_G} {k : Nat → ClassId} {r : Nat → Nat} {tf : Nat → Option Nat} {tq : Nat → Nat} {nt : Nat} (C : Ctx p s m args meth c cX4_hasTag 4 RX4 (some .boolean)) (E : gEL D k s) {r1 : Int32} (S : St) (x1 : Int32) (x2 : Int32) : ∀ (n : Nat) (x3 : Int32), fX4_hasTag_2 S x1 x2 n x3 = some r1 → ∀ (H : Heap) (locs : List Loc) (ls : Array Slot), gW D ((SN k r tf tq nt) S) ((SN k r tf tq nt) S) s H locs → lv_has ls 4 [(0, .ref (r 0)), (1, .int x1), (2, .int x2), (3, .int x3)] → W p l e ({ frames := 1, cells := 0, slots := 0, locals := 23 } : Room) s m args below meth c H locs 0 0 (MQ below (gQi D (SN k r tf tq nt) S (fun (r : Int32) (u : St) => r = r1 ∧ u = S) s.heap.size) args s 0 0 (va_A ((SN k r tf tq nt) S) s.heap.size)) (F0 m 2 ls []) := by
  intro n
  induction n with
  | zero => intro x3 hf; rw [fX4_hasTag_2] at hf; cases hf
  | succ n ih =>
    intro x3 hf H locs ls hw hl
    rw [fX4_hasTag_2] at hf
    refine lv_iload_n C.1 C.2.1 dX4_hasTag_2 rfl (lv_at hl 3 rfl) ?_
    refine lv_aload_n C.1 C.2.1 dX4_hasTag_3 rfl (lv_at hl 0 rfl) ?_
    refine s_get C E hw 0 (by decide) kf_X4_29 rfl dX4_hasTag_4 ?_
    refine lv_icmp_ge (tgt := 43) C.1 C.2.1 dX4_hasTag_7 (by decide) (fun hc => ?_) (fun hc => ?_)
    · have hf := ift hc hf
      refine lv_iconst (v := 0) C.1 C.2.1 dX4_hasTag_43 (by decide) ?_
      exact g_zret C hw (Nat.le_of_ble_eq_true rfl) (Nat.le_of_ble_eq_true rfl) (Or.inl rfl) ⟨Option.some.inj hf, rfl⟩ dX4_hasTag_44
    · have hf := iff_ hc hf
      refine lv_aload_n C.1 C.2.1 dX4_hasTag_10 rfl (lv_at hl 0 rfl) ?_
      refine s_get C E hw 5 (by decide) kf_X4_15 rfl dX4_hasTag_11 ?_
      refine lv_iload_n C.1 C.2.1 dX4_hasTag_14 rfl (lv_at hl 1 rfl) ?_
      obtain ⟨j_1, hj_1, hf⟩ := bnd hf
      refine s_aaO C E hw hj_1 dX4_hasTag_15 ?_
      refine lv_iload_n C.1 C.2.1 dX4_hasTag_16 rfl (lv_at hl 3 rfl) ?_
      obtain ⟨v_2, hv_2, hf⟩ := bnd hf
      refine s_zald C E hw hv_2 dX4_hasTag_17 ?_
      refine lv_if_eq (tgt := 37) C.1 C.2.1 dX4_hasTag_18 (by decide) (fun hc => ?_) (fun hc => ?_)
      · have hf := ift hc hf
        obtain ⟨x3_3, hx3_3, hf⟩ := bnd hf
        refine lv_iinc (v := x3_3) (lv' := [(3, .int x3_3), (0, .ref (r 0)), (1, .int x1), (2, .int x2)]) C.1 C.2.1 dX4_hasTag_37 hl (k := 3) rfl (inc1 hx3_3) (by decide) rfl (fun ls hl => ?_)
        refine lv_goto (tgt := 2) C.1 C.2.1 dX4_hasTag_40 (by decide) ?_
        exact ih x3_3 hf _ _ _ hw (lv_sub hl [1, 2, 3, 0] rfl)
      · have hf := iff_ hc hf
        refine lv_iload_n C.1 C.2.1 dX4_hasTag_21 rfl (lv_at hl 3 rfl) ?_
        refine lv_iload_n C.1 C.2.1 dX4_hasTag_22 rfl (lv_at hl 2 rfl) ?_
        refine lv_icmp_eq (tgt := 35) C.1 C.2.1 dX4_hasTag_23 (by decide) (fun hc => ?_) (fun hc => ?_)
        · have hf := ift hc hf
          refine lv_iconst (v := 1) C.1 C.2.1 dX4_hasTag_35 (by decide) ?_
          exact g_zret C hw (Nat.le_of_ble_eq_true rfl) (Nat.le_of_ble_eq_true rfl) (Or.inr rfl) ⟨Option.some.inj hf, rfl⟩ dX4_hasTag_36
        · have hf := iff_ hc hf
          refine lv_aload_n C.1 C.2.1 dX4_hasTag_26 rfl (lv_at hl 0 rfl) ?_
          refine lv_iload_n C.1 C.2.1 dX4_hasTag_27 rfl (lv_at hl 3 rfl) ?_
          refine lv_iload_n C.1 C.2.1 dX4_hasTag_28 rfl (lv_at hl 2 rfl) ?_
          obtain ⟨v_4, hv_4, hf⟩ := bnd hf
          refine g_cie (wf := (SN k r tf tq nt)) (S := S) (rest := []) SN_adr hw (g_runVL (rm := ({ frames := 0, cells := 0, slots := 0, locals := 0 } : Room)) (As := [.int x3, .int x2]) (rest := []) C E hw F_X4_isBelow (ctX4_isBelow l (k := k) (D := D) (r := r) (tf := tf) (tq := tq) (nt := nt) S x3 x2 _ hv_4) km_X4_33 0 SN_0 rfl rfl hl.1 rfl (Nat.le_of_ble_eq_true rfl) ⟨(Nat.le_of_ble_eq_true rfl), (Nat.le_of_ble_eq_true rfl)⟩ ⟨(Nat.le_of_ble_eq_true rfl), (Nat.le_of_ble_eq_true rfl)⟩ dX4_hasTag_29) (fun H locs hw => ?_)
          refine lv_if_eq (tgt := 37) C.1 C.2.1 dX4_hasTag_32 (by decide) (fun hc => ?_) (fun hc => ?_)
          · have hf := ift hc hf
            obtain ⟨x3_5, hx3_5, hf⟩ := bnd hf
            refine lv_iinc (v := x3_5) (lv' := [(3, .int x3_5), (0, .ref (r 0)), (1, .int x1), (2, .int x2)]) C.1 C.2.1 dX4_hasTag_37 hl (k := 3) rfl (inc1 hx3_5) (by decide) rfl (fun ls hl => ?_)
            refine lv_goto (tgt := 2) C.1 C.2.1 dX4_hasTag_40 (by decide) ?_
            exact ih x3_5 hf _ _ _ hw (lv_sub hl [1, 2, 3, 0] rfl)
          · have hf := iff_ hc hf
            refine lv_iconst (v := 1) C.1 C.2.1 dX4_hasTag_35 (by decide) ?_
            exact g_zret C hw (Nat.le_of_ble_eq_true rfl) (Nat.le_of_ble_eq_true rfl) (Or.inr rfl) ⟨Option.some.inj hf, rfl⟩ dX4_hasTag_36
def fX4_hasTag (S : St) (x1 : Int32) (x2 : Int32) : Option Int32 :=
  fX4_hasTag_2 S x1 x2 100 0
set_option maxHeartbeats 4000000 in
set_option maxRecDepth 100000 in
theorem ctX4_hasTag (l : Launch) {D : va_G} {k : Nat → ClassId} {r : Nat → Nat} {tf : Nat → Option Nat} {tq : Nat → Nat} {nt : Nat} (S : St) (x1 : Int32) (x2 : Int32) (sz : Nat) {r1 : Int32} (hf : fX4_hasTag S x1 x2 = some r1) : Met l yX4_hasTag (Cond.code yX4_hasTag cX4_hasTag 4 (some .boolean) :: XALL) ({ frames := 1, cells := 0, slots := 0, locals := 23 } : Room) (va_Pc [.ref (r 0), .int x1, .int x2] (gPreL D k ((SN k r tf tq nt) S) sz)) (gQi D (SN k r tf tq nt) S (fun (r : Int32) (u : St) => r = r1 ∧ u = S) sz) 0 0 (va_A ((SN k r tf tq nt) S) sz) := by
  unfold fX4_hasTag at hf
  refine Met.ofW (cc := cX4_hasTag) (maxL := 4) (ret := (some .boolean)) (by decide) rfl ?_
  intro p e s m args below meth c s₁ B hml hv
  obtain ⟨rfl, hg⟩ := hv
  have C : Ctx p s m _ meth c cX4_hasTag 4 RX4 (some .boolean) := Ctx.of B hml rfl
  obtain ⟨E, hw, hsz⟩ := gL_start hg
  subst hsz
  have hl := lv_entry ([.ref (r 0), .int x1, .int x2]) (n := 4) (Nat.le_of_ble_eq_true rfl)
  rw [lg_entry_eq]
  generalize (lg_sl ([.ref (r 0), .int x1, .int x2]) ++ List.replicate (4 - (lg_sl ([.ref (r 0), .int x1, .int x2])).length) Slot.unset).toArray = ls at hl ⊢
  have hl : lv_has ls 4 [(0, .ref (r 0)), (1, .int x1), (2, .int x2)] := hl
  refine lv_iconst (v := 0) C.1 C.2.1 dX4_hasTag_0 (by decide) ?_
  refine lv_istore_n (lv' := [(3, .int 0), (0, .ref (r 0)), (1, .int x1), (2, .int x2)]) C.1 C.2.1 dX4_hasTag_1 rfl hl (by decide) rfl (fun ls hl => ?_)
  exact wX4_hasTag_2 C E S x1 x2 100 0 hf _ _ _ hw (lv_sub hl [1, 2, 3, 0] rfl)
theorem F_X4_ownTags : FctV yX4_ownTags cX4_ownTags 7 (some .int) 1 := ⟨⟨kc_yX4_ownTags, kz_X4, by decide +kernel, by decide +kernel, by decide +kernel⟩, ki_yX4_ownTags, ks_yX4_ownTags⟩
def fX4_ownTags_40 (S : St) (x4 : Int32) (j3 : Nat) (k16 : Int32 → Int32 → Option Int32) (x5 : Int32) (t0 : Int32) (t1 : Int32) : Option Int32 :=
  Option.bind (some ((t0 + t1))) fun x2_3 =>
  Option.bind (some (x5 + 1)) fun x5_4 =>
  k16 x2_3 x5_4
set_option maxHeartbeats 4000000 in
set_option maxRecDepth 100000 in
theorem wX4_ownTags_40 {p : Program} {l : Launch} {e : Env} {s : State} {m : MethodId} {args : Array Value} {below : List Frame} {meth : Method} {c : Code} {D : va_G} {k : Nat → ClassId} {r : Nat → Nat} {tf : Nat → Option Nat} {tq : Nat → Nat} {nt : Nat} (C : Ctx p s m args meth c cX4_ownTags 7 RX4 (some .int)) (E : gEL D k s) {r1 : Int32} (S : St) (x4 : Int32) (j3 : Nat) (k16 : Int32 → Int32 → Option Int32) (hk16 : ∀ (x2 : Int32) (x5 : Int32), k16 x2 x5 = some r1 → ∀ (H : Heap) (locs : List Loc) (ls : Array Slot), gW D ((SN k r tf tq nt) S) ((SN k r tf tq nt) S) s H locs → lv_has ls 7 [(2, .int x2), (3, .ref (r (6 + j3))), (4, .int x4), (5, .int x5)] → W p l e ({ frames := 0, cells := 0, slots := 0, locals := 0 } : Room) s m args below meth c H locs 0 0 (MQ below (gQi D (SN k r tf tq nt) S (fun (r : Int32) (u : St) => r = r1 ∧ u = S) s.heap.size) args s 0 0 (va_A ((SN k r tf tq nt) S) s.heap.size)) (F0 m 16 ls [])) : ∀ (x5 : Int32) (t0 : Int32) (t1 : Int32), fX4_ownTags_40 S x4 j3 k16 x5 t0 t1 = some r1 → ∀ (H : Heap) (locs : List Loc) (ls : Array Slot), gW D ((SN k r tf tq nt) S) ((SN k r tf tq nt) S) s H locs → lv_has ls 7 [(3, .ref (r (6 + j3))), (4, .int x4), (5, .int x5)] → W p l e ({ frames := 0, cells := 0, slots := 0, locals := 0 } : Room) s m args below meth c H locs 0 0 (MQ below (gQi D (SN k r tf tq nt) S (fun (r : Int32) (u : St) => r = r1 ∧ u = S) s.heap.size) args s 0 0 (va_A ((SN k r tf tq nt) S) s.heap.size)) (F0 m 40 ls [.int t1, .int t0]) := by
  intro x5 t0 t1 hf H locs ls hw hl
  unfold fX4_ownTags_40 at hf
  refine lv_iadd C.1 C.2.1 dX4_ownTags_40 ?_
  obtain ⟨x2_3, hx2_3, hf⟩ := bnd hf
  refine topi_b hx2_3 ?_
  refine lv_istore_n (lv' := [(2, .int x2_3), (3, .ref (r (6 + j3))), (4, .int x4), (5, .int x5)]) C.1 C.2.1 dX4_ownTags_41 rfl hl (by decide) rfl (fun ls hl => ?_)
  obtain ⟨x5_4, hx5_4, hf⟩ := bnd hf
  refine lv_iinc (v := x5_4) (lv' := [(5, .int x5_4), (2, .int x2_3), (3, .ref (r (6 + j3))), (4, .int x4)]) C.1 C.2.1 dX4_ownTags_42 hl (k := 3) rfl (inc1 hx5_4) (by decide) rfl (fun ls hl => ?_)
  refine lv_goto (tgt := 16) C.1 C.2.1 dX4_ownTags_45 (by decide) ?_
  exact hk16 x2_3 x5_4 hf _ _ _ hw (lv_sub hl [1, 2, 3, 0] rfl)
def fX4_ownTags_16 (S : St) (x4 : Int32) (j3 : Nat) : Nat → Int32 → Int32 → Option Int32
  | 0, _, _ => none
  | n + 1, x2, x5 =>
    if x4 ≤ x5 then
      some x2
    else
      Option.bind (ldO S j3 x5) fun v_2 =>
      if v_2 = 0 then
        fX4_ownTags_40 S x4 j3 (fX4_ownTags_16 S x4 j3 n) x5 x2 0
      else
        fX4_ownTags_40 S x4 j3 (fX4_ownTags_16 S x4 j3 n) x5 x2 1
set_option maxHeartbeats 4000000 in
set_option maxRecDepth 100000 in
theorem wX4_ownTags_16 {p : Program} {l : Launch} {e : Env} {s : State} {m : MethodId} {args : Array Value} {below : List Frame} {meth : Method} {c : Code} {D : va_G} {k : Nat → ClassId} {r : Nat → Nat} {tf : Nat → Option Nat} {tq : Nat → Nat} {nt : Nat} (C : Ctx p s m args meth c cX4_ownTags 7 RX4 (some .int)) (E : gEL D k s) {r1 : Int32} (S : St) (x4 : Int32) (j3 : Nat) : ∀ (n : Nat) (x2 : Int32) (x5 : Int32), fX4_ownTags_16 S x4 j3 n x2 x5 = some r1 → ∀ (H : Heap) (locs : List Loc) (ls : Array Slot), gW D ((SN k r tf tq nt) S) ((SN k r tf tq nt) S) s H locs → lv_has ls 7 [(2, .int x2), (3, .ref (r (6 + j3))), (4, .int x4), (5, .int x5)] → W p l e ({ frames := 0, cells := 0, slots := 0, locals := 0 } : Room) s m args below meth c H locs 0 0 (MQ below (gQi D (SN k r tf tq nt) S (fun (r : Int32) (u : St) => r = r1 ∧ u = S) s.heap.size) args s 0 0 (va_A ((SN k r tf tq nt) S) s.heap.size)) (F0 m 16 ls []) := by
  intro n
  induction n with
  | zero => intro x2 x5 hf; rw [fX4_ownTags_16] at hf; cases hf
  | succ n ih =>
    intro x2 x5 hf H locs ls hw hl
    rw [fX4_ownTags_16] at hf
    refine lv_iload C.1 C.2.1 dX4_ownTags_16 (lv_at hl 3 rfl) ?_
    refine lv_iload C.1 C.2.1 dX4_ownTags_18 (lv_at hl 2 rfl) ?_
    refine lv_icmp_ge (tgt := 48) C.1 C.2.1 dX4_ownTags_20 (by decide) (fun hc => ?_) (fun hc => ?_)
    · have hf := ift hc hf
      refine lv_iload_n C.1 C.2.1 dX4_ownTags_48 rfl (lv_at hl 0 rfl) ?_
      exact g_iret C hw (Nat.le_of_ble_eq_true rfl) (Nat.le_of_ble_eq_true rfl) ⟨Option.some.inj hf, rfl⟩ dX4_ownTags_49
    · have hf := iff_ hc hf
      refine lv_aload_n C.1 C.2.1 dX4_ownTags_23 rfl (lv_at hl 1 rfl) ?_
      refine lv_iload C.1 C.2.1 dX4_ownTags_24 (lv_at hl 3 rfl) ?_
      obtain ⟨v_2, hv_2, hf⟩ := bnd hf
      refine s_zald C E hw hv_2 dX4_ownTags_26 ?_
      refine lv_istore (lv' := [(6, .int v_2), (2, .int x2), (3, .ref (r (6 + j3))), (4, .int x4), (5, .int x5)]) C.1 C.2.1 dX4_ownTags_27 hl (by decide) rfl (fun ls hl => ?_)
      refine lv_iload_n C.1 C.2.1 dX4_ownTags_29 rfl (lv_at hl 1 rfl) ?_
      refine lv_iload C.1 C.2.1 dX4_ownTags_30 (lv_at hl 0 rfl) ?_
      refine lv_if_eq (tgt := 39) C.1 C.2.1 dX4_ownTags_32 (by decide) (fun hc => ?_) (fun hc => ?_)
      · have hf := ift hc hf
        refine lv_iconst (v := 0) C.1 C.2.1 dX4_ownTags_39 (by decide) ?_
        exact wX4_ownTags_40 C E S x4 j3 (fX4_ownTags_16 S x4 j3 n) ih x5 x2 0 hf _ _ _ hw (lv_sub hl [2, 3, 4] rfl)
      · have hf := iff_ hc hf
        refine lv_iconst (v := 1) C.1 C.2.1 dX4_ownTags_35 (by decide) ?_
        refine lv_goto (tgt := 40) C.1 C.2.1 dX4_ownTags_36 (by decide) ?_
        exact wX4_ownTags_40 C E S x4 j3 (fX4_ownTags_16 S x4 j3 n) ih x5 x2 1 hf _ _ _ hw (lv_sub hl [2, 3, 4] rfl)
def fX4_ownTags (S : St) (x1 : Int32) : Option Int32 :=
  Option.bind (ix 24 x1) fun j_1 =>
  fX4_ownTags_16 S 16 j_1 100 0 0
set_option maxHeartbeats 4000000 in
set_option maxRecDepth 100000 in
theorem ctX4_ownTags (l : Launch) {D : va_G} {k : Nat → ClassId} {r : Nat → Nat} {tf : Nat → Option Nat} {tq : Nat → Nat} {nt : Nat} (S : St) (x1 : Int32) (sz : Nat) {r1 : Int32} (hf : fX4_ownTags S x1 = some r1) : Met l yX4_ownTags (Cond.code yX4_ownTags cX4_ownTags 7 (some .int) :: XALL) ({ frames := 0, cells := 0, slots := 0, locals := 0 } : Room) (va_Pc [.ref (r 0), .int x1] (gPreL D k ((SN k r tf tq nt) S) sz)) (gQi D (SN k r tf tq nt) S (fun (r : Int32) (u : St) => r = r1 ∧ u = S) sz) 0 0 (va_A ((SN k r tf tq nt) S) sz) := by
  unfold fX4_ownTags at hf
  refine Met.ofW (cc := cX4_ownTags) (maxL := 7) (ret := (some .int)) (by decide) rfl ?_
  intro p e s m args below meth c s₁ B hml hv
  obtain ⟨rfl, hg⟩ := hv
  have C : Ctx p s m _ meth c cX4_ownTags 7 RX4 (some .int) := Ctx.of B hml rfl
  obtain ⟨E, hw, hsz⟩ := gL_start hg
  subst hsz
  have hl := lv_entry ([.ref (r 0), .int x1]) (n := 7) (Nat.le_of_ble_eq_true rfl)
  rw [lg_entry_eq]
  generalize (lg_sl ([.ref (r 0), .int x1]) ++ List.replicate (7 - (lg_sl ([.ref (r 0), .int x1])).length) Slot.unset).toArray = ls at hl ⊢
  have hl : lv_has ls 7 [(0, .ref (r 0)), (1, .int x1)] := hl
  refine lv_iconst (v := 0) C.1 C.2.1 dX4_ownTags_0 (by decide) ?_
  refine lv_istore_n (lv' := [(2, .int 0), (0, .ref (r 0)), (1, .int x1)]) C.1 C.2.1 dX4_ownTags_1 rfl hl (by decide) rfl (fun ls hl => ?_)
  refine lv_aload_n C.1 C.2.1 dX4_ownTags_2 rfl (lv_at hl 1 rfl) ?_
  refine s_get C E hw 5 (by decide) kf_X4_15 rfl dX4_ownTags_3 ?_
  refine lv_iload_n C.1 C.2.1 dX4_ownTags_6 rfl (lv_at hl 2 rfl) ?_
  obtain ⟨j_1, hj_1, hf⟩ := bnd hf
  refine s_aaO C E hw hj_1 dX4_ownTags_7 ?_
  refine lv_astore_n (lv' := [(3, .ref (r (6 + j_1))), (2, .int 0), (0, .ref (r 0)), (1, .int x1)]) C.1 C.2.1 dX4_ownTags_8 rfl hl (by decide) rfl (fun ls hl => ?_)
  refine lv_aload_n C.1 C.2.1 dX4_ownTags_9 rfl (lv_at hl 0 rfl) ?_
  refine s_alen C E hw (ix_some hj_1).2.2 dX4_ownTags_10 ?_
  refine lv_istore (lv' := [(4, .int 16), (3, .ref (r (6 + j_1))), (2, .int 0), (0, .ref (r 0)), (1, .int x1)]) C.1 C.2.1 dX4_ownTags_11 hl (by decide) rfl (fun ls hl => ?_)
  refine lv_iconst (v := 0) C.1 C.2.1 dX4_ownTags_13 (by decide) ?_
  refine lv_istore (lv' := [(5, .int 0), (4, .int 16), (3, .ref (r (6 + j_1))), (2, .int 0), (0, .ref (r 0)), (1, .int x1)]) C.1 C.2.1 dX4_ownTags_14 hl (by decide) rfl (fun ls hl => ?_)
  exact wX4_ownTags_16 C E S 16 j_1 100 0 0 hf _ _ _ hw (lv_sub hl [3, 2, 1, 0] rfl)
theorem F_X4_later : FctV yX4_later cX4_later 4 (some .int) 2 := ⟨⟨kc_yX4_later, kz_X4, by decide +kernel, by decide +kernel, by decide +kernel⟩, ki_yX4_later, ks_yX4_later⟩
def fX4_later_19 (S : St) (x1 : Int32) (x2 : Int32) : Nat → Int32 → Option Int32
  | 0, _ => none
  | n + 1, x3 =>
    if (S 34 0) ≤ x3 then
      Option.bind (ld S 3 24 x1) fun v_2 =>
      if v_2 ≤ x2 then
        some 0
      else
        Option.bind (ld S 3 24 x1) fun v_3 =>
        some (v_3 - x2)
    else
      Option.bind (ix 24 x1) fun j_4 =>
      Option.bind (ldO S j_4 x3) fun v_5 =>
      if v_5 = 0 then
        Option.bind (some (x3 + 1)) fun x3_6 =>
        fX4_later_19 S x1 x2 n x3_6
      else
        Option.bind (ix 24 ((S 35 0) - 1)) fun j_7 =>
        Option.bind (ldO S j_7 x3) fun v_8 =>
        if v_8 = 0 then
          Option.bind (some (x3 + 1)) fun x3_9 =>
          fX4_later_19 S x1 x2 n x3_9
        else
          Option.bind (ld S 3 24 x1) fun v_10 =>
          some v_10
set_option maxHeartbeats 4000000 in
set_option maxRecDepth 100000 in
theorem wX4_later_19 {p : Program} {l : Launch} {e : Env} {s : State} {m : MethodId} {args : Array Value} {below : List Frame} {meth : Method} {c : Code} {D : va_G} {k : Nat → ClassId} {r : Nat → Nat} {tf : Nat → Option Nat} {tq : Nat → Nat} {nt : Nat} (C : Ctx p s m args meth c cX4_later 4 RX4 (some .int)) (E : gEL D k s) {r1 : Int32} (S : St) (x1 : Int32) (x2 : Int32) : ∀ (n : Nat) (x3 : Int32), fX4_later_19 S x1 x2 n x3 = some r1 → ∀ (H : Heap) (locs : List Loc) (ls : Array Slot), gW D ((SN k r tf tq nt) S) ((SN k r tf tq nt) S) s H locs → lv_has ls 4 [(0, .ref (r 0)), (1, .int x1), (2, .int x2), (3, .int x3)] → W p l e ({ frames := 0, cells := 0, slots := 0, locals := 0 } : Room) s m args below meth c H locs 0 0 (MQ below (gQi D (SN k r tf tq nt) S (fun (r : Int32) (u : St) => r = r1 ∧ u = S) s.heap.size) args s 0 0 (va_A ((SN k r tf tq nt) S) s.heap.size)) (F0 m 19 ls []) := by
  intro n
  induction n with
  | zero => intro x3 hf; rw [fX4_later_19] at hf; cases hf
  | succ n ih =>
    intro x3 hf H locs ls hw hl
    rw [fX4_later_19] at hf
    refine lv_iload_n C.1 C.2.1 dX4_later_19 rfl (lv_at hl 3 rfl) ?_
    refine lv_aload_n C.1 C.2.1 dX4_later_20 rfl (lv_at hl 0 rfl) ?_
    refine s_get C E hw 0 (by decide) kf_X4_29 rfl dX4_later_21 ?_
    refine lv_icmp_ge (tgt := 67) C.1 C.2.1 dX4_later_24 (by decide) (fun hc => ?_) (fun hc => ?_)
    · have hf := ift hc hf
      refine lv_aload_n C.1 C.2.1 dX4_later_67 rfl (lv_at hl 0 rfl) ?_
      refine s_get C E hw 6 (by decide) kf_X4_18 rfl dX4_later_68 ?_
      refine lv_iload_n C.1 C.2.1 dX4_later_71 rfl (lv_at hl 1 rfl) ?_
      obtain ⟨v_2, hv_2, hf⟩ := bnd hf
      refine s_ald C E hw 3 (by decide) rfl hv_2 dX4_later_72 ?_
      refine lv_iload_n C.1 C.2.1 dX4_later_73 rfl (lv_at hl 2 rfl) ?_
      refine lv_icmp_le (tgt := 88) C.1 C.2.1 dX4_later_74 (by decide) (fun hc => ?_) (fun hc => ?_)
      · have hf := ift hc hf
        refine lv_iconst (v := 0) C.1 C.2.1 dX4_later_88 (by decide) ?_
        exact g_iret C hw (Nat.le_of_ble_eq_true rfl) (Nat.le_of_ble_eq_true rfl) ⟨Option.some.inj hf, rfl⟩ dX4_later_89
      · have hf := iff_ hc hf
        refine lv_aload_n C.1 C.2.1 dX4_later_77 rfl (lv_at hl 0 rfl) ?_
        refine s_get C E hw 6 (by decide) kf_X4_18 rfl dX4_later_78 ?_
        refine lv_iload_n C.1 C.2.1 dX4_later_81 rfl (lv_at hl 1 rfl) ?_
        obtain ⟨v_3, hv_3, hf⟩ := bnd hf
        refine s_ald C E hw 3 (by decide) rfl hv_3 dX4_later_82 ?_
        refine lv_iload_n C.1 C.2.1 dX4_later_83 rfl (lv_at hl 2 rfl) ?_
        refine lv_isub C.1 C.2.1 dX4_later_84 ?_
        refine lv_goto (tgt := 89) C.1 C.2.1 dX4_later_85 (by decide) ?_
        exact g_iret C hw (Nat.le_of_ble_eq_true rfl) (Nat.le_of_ble_eq_true rfl) ⟨Option.some.inj hf, rfl⟩ dX4_later_89
    · have hf := iff_ hc hf
      refine lv_aload_n C.1 C.2.1 dX4_later_27 rfl (lv_at hl 0 rfl) ?_
      refine s_get C E hw 5 (by decide) kf_X4_15 rfl dX4_later_28 ?_
      refine lv_iload_n C.1 C.2.1 dX4_later_31 rfl (lv_at hl 1 rfl) ?_
      obtain ⟨j_4, hj_4, hf⟩ := bnd hf
      refine s_aaO C E hw hj_4 dX4_later_32 ?_
      refine lv_iload_n C.1 C.2.1 dX4_later_33 rfl (lv_at hl 3 rfl) ?_
      obtain ⟨v_5, hv_5, hf⟩ := bnd hf
      refine s_zald C E hw hv_5 dX4_later_34 ?_
      refine lv_if_eq (tgt := 61) C.1 C.2.1 dX4_later_35 (by decide) (fun hc => ?_) (fun hc => ?_)
      · have hf := ift hc hf
        obtain ⟨x3_6, hx3_6, hf⟩ := bnd hf
        refine lv_iinc (v := x3_6) (lv' := [(3, .int x3_6), (0, .ref (r 0)), (1, .int x1), (2, .int x2)]) C.1 C.2.1 dX4_later_61 hl (k := 3) rfl (inc1 hx3_6) (by decide) rfl (fun ls hl => ?_)
        refine lv_goto (tgt := 19) C.1 C.2.1 dX4_later_64 (by decide) ?_
        exact ih x3_6 hf _ _ _ hw (lv_sub hl [1, 2, 3, 0] rfl)
      · have hf := iff_ hc hf
        refine lv_aload_n C.1 C.2.1 dX4_later_38 rfl (lv_at hl 0 rfl) ?_
        refine s_get C E hw 5 (by decide) kf_X4_15 rfl dX4_later_39 ?_
        refine lv_aload_n C.1 C.2.1 dX4_later_42 rfl (lv_at hl 0 rfl) ?_
        refine s_get C E hw 1 (by decide) kf_X4_40 rfl dX4_later_43 ?_
        refine lv_iconst (v := 1) C.1 C.2.1 dX4_later_46 (by decide) ?_
        refine lv_isub C.1 C.2.1 dX4_later_47 ?_
        obtain ⟨j_7, hj_7, hf⟩ := bnd hf
        refine s_aaO C E hw hj_7 dX4_later_48 ?_
        refine lv_iload_n C.1 C.2.1 dX4_later_49 rfl (lv_at hl 3 rfl) ?_
        obtain ⟨v_8, hv_8, hf⟩ := bnd hf
        refine s_zald C E hw hv_8 dX4_later_50 ?_
        refine lv_if_eq (tgt := 61) C.1 C.2.1 dX4_later_51 (by decide) (fun hc => ?_) (fun hc => ?_)
        · have hf := ift hc hf
          obtain ⟨x3_9, hx3_9, hf⟩ := bnd hf
          refine lv_iinc (v := x3_9) (lv' := [(3, .int x3_9), (0, .ref (r 0)), (1, .int x1), (2, .int x2)]) C.1 C.2.1 dX4_later_61 hl (k := 3) rfl (inc1 hx3_9) (by decide) rfl (fun ls hl => ?_)
          refine lv_goto (tgt := 19) C.1 C.2.1 dX4_later_64 (by decide) ?_
          exact ih x3_9 hf _ _ _ hw (lv_sub hl [1, 2, 3, 0] rfl)
        · have hf := iff_ hc hf
          refine lv_aload_n C.1 C.2.1 dX4_later_54 rfl (lv_at hl 0 rfl) ?_
          refine s_get C E hw 6 (by decide) kf_X4_18 rfl dX4_later_55 ?_
          refine lv_iload_n C.1 C.2.1 dX4_later_58 rfl (lv_at hl 1 rfl) ?_
          obtain ⟨v_10, hv_10, hf⟩ := bnd hf
          refine s_ald C E hw 3 (by decide) rfl hv_10 dX4_later_59 ?_
          exact g_iret C hw (Nat.le_of_ble_eq_true rfl) (Nat.le_of_ble_eq_true rfl) ⟨Option.some.inj hf, rfl⟩ dX4_later_60
def fX4_later (S : St) (x1 : Int32) (x2 : Int32) : Option Int32 :=
  if x1 = ((S 35 0) - 1) then
    Option.bind (ld S 3 24 x1) fun v_1 =>
    some v_1
  else
    fX4_later_19 S x1 x2 100 0
set_option maxHeartbeats 4000000 in
set_option maxRecDepth 100000 in
theorem ctX4_later (l : Launch) {D : va_G} {k : Nat → ClassId} {r : Nat → Nat} {tf : Nat → Option Nat} {tq : Nat → Nat} {nt : Nat} (S : St) (x1 : Int32) (x2 : Int32) (sz : Nat) {r1 : Int32} (hf : fX4_later S x1 x2 = some r1) : Met l yX4_later (Cond.code yX4_later cX4_later 4 (some .int) :: XALL) ({ frames := 0, cells := 0, slots := 0, locals := 0 } : Room) (va_Pc [.ref (r 0), .int x1, .int x2] (gPreL D k ((SN k r tf tq nt) S) sz)) (gQi D (SN k r tf tq nt) S (fun (r : Int32) (u : St) => r = r1 ∧ u = S) sz) 0 0 (va_A ((SN k r tf tq nt) S) sz) := by
  unfold fX4_later at hf
  refine Met.ofW (cc := cX4_later) (maxL := 4) (ret := (some .int)) (by decide) rfl ?_
  intro p e s m args below meth c s₁ B hml hv
  obtain ⟨rfl, hg⟩ := hv
  have C : Ctx p s m _ meth c cX4_later 4 RX4 (some .int) := Ctx.of B hml rfl
  obtain ⟨E, hw, hsz⟩ := gL_start hg
  subst hsz
  have hl := lv_entry ([.ref (r 0), .int x1, .int x2]) (n := 4) (Nat.le_of_ble_eq_true rfl)
  rw [lg_entry_eq]
  generalize (lg_sl ([.ref (r 0), .int x1, .int x2]) ++ List.replicate (4 - (lg_sl ([.ref (r 0), .int x1, .int x2])).length) Slot.unset).toArray = ls at hl ⊢
  have hl : lv_has ls 4 [(0, .ref (r 0)), (1, .int x1), (2, .int x2)] := hl
  refine lv_iload_n C.1 C.2.1 dX4_later_0 rfl (lv_at hl 1 rfl) ?_
  refine lv_aload_n C.1 C.2.1 dX4_later_1 rfl (lv_at hl 0 rfl) ?_
  refine s_get C E hw 1 (by decide) kf_X4_40 rfl dX4_later_2 ?_
  refine lv_iconst (v := 1) C.1 C.2.1 dX4_later_5 (by decide) ?_
  refine lv_isub C.1 C.2.1 dX4_later_6 ?_
  refine lv_icmp_ne (tgt := 17) C.1 C.2.1 dX4_later_7 (by decide) (fun hc => ?_) (fun hc => ?_)
  · have hf := iff_ hc hf
    refine lv_iconst (v := 0) C.1 C.2.1 dX4_later_17 (by decide) ?_
    refine lv_istore_n (lv' := [(3, .int 0), (0, .ref (r 0)), (1, .int x1), (2, .int x2)]) C.1 C.2.1 dX4_later_18 rfl hl (by decide) rfl (fun ls hl => ?_)
    exact wX4_later_19 C E S x1 x2 100 0 hf _ _ _ hw (lv_sub hl [1, 2, 3, 0] rfl)
  · have hf := ift hc hf
    refine lv_aload_n C.1 C.2.1 dX4_later_10 rfl (lv_at hl 0 rfl) ?_
    refine s_get C E hw 6 (by decide) kf_X4_18 rfl dX4_later_11 ?_
    refine lv_iload_n C.1 C.2.1 dX4_later_14 rfl (lv_at hl 1 rfl) ?_
    obtain ⟨v_1, hv_1, hf⟩ := bnd hf
    refine s_ald C E hw 3 (by decide) rfl hv_1 dX4_later_15 ?_
    exact g_iret C hw (Nat.le_of_ble_eq_true rfl) (Nat.le_of_ble_eq_true rfl) ⟨Option.some.inj hf, rfl⟩ dX4_later_16
theorem F_X4_faded : FctV yX4_faded cX4_faded 4 (some .int) 1 := ⟨⟨kc_yX4_faded, kz_X4, by decide +kernel, by decide +kernel, by decide +kernel⟩, ki_yX4_faded, ks_yX4_faded⟩
def fX4_faded_27 (S : St) (x1 : Int32) (k4 : Int32 → Int32 → Option Int32) (x3 : Int32) (t0 : Int32) (t1 : Int32) : Option Int32 :=
  Option.bind (some ((t0 + t1))) fun x2_2 =>
  Option.bind (some (x3 + 1)) fun x3_3 =>
  k4 x2_2 x3_3
set_option maxHeartbeats 4000000 in
set_option maxRecDepth 100000 in
theorem wX4_faded_27 {p : Program} {l : Launch} {e : Env} {s : State} {m : MethodId} {args : Array Value} {below : List Frame} {meth : Method} {c : Code} {D : va_G} {k : Nat → ClassId} {r : Nat → Nat} {tf : Nat → Option Nat} {tq : Nat → Nat} {nt : Nat} (C : Ctx p s m args meth c cX4_faded 4 RX4 (some .int)) (E : gEL D k s) {r1 : Int32} (S : St) (x1 : Int32) (k4 : Int32 → Int32 → Option Int32) (hk4 : ∀ (x2 : Int32) (x3 : Int32), k4 x2 x3 = some r1 → ∀ (H : Heap) (locs : List Loc) (ls : Array Slot), gW D ((SN k r tf tq nt) S) ((SN k r tf tq nt) S) s H locs → lv_has ls 4 [(0, .ref (r 0)), (1, .int x1), (2, .int x2), (3, .int x3)] → W p l e ({ frames := 1, cells := 0, slots := 0, locals := 23 } : Room) s m args below meth c H locs 0 0 (MQ below (gQi D (SN k r tf tq nt) S (fun (r : Int32) (u : St) => r = r1 ∧ u = S) s.heap.size) args s 0 0 (va_A ((SN k r tf tq nt) S) s.heap.size)) (F0 m 4 ls [])) : ∀ (x3 : Int32) (t0 : Int32) (t1 : Int32), fX4_faded_27 S x1 k4 x3 t0 t1 = some r1 → ∀ (H : Heap) (locs : List Loc) (ls : Array Slot), gW D ((SN k r tf tq nt) S) ((SN k r tf tq nt) S) s H locs → lv_has ls 4 [(0, .ref (r 0)), (1, .int x1), (3, .int x3)] → W p l e ({ frames := 1, cells := 0, slots := 0, locals := 23 } : Room) s m args below meth c H locs 0 0 (MQ below (gQi D (SN k r tf tq nt) S (fun (r : Int32) (u : St) => r = r1 ∧ u = S) s.heap.size) args s 0 0 (va_A ((SN k r tf tq nt) S) s.heap.size)) (F0 m 27 ls [.int t1, .int t0]) := by
  intro x3 t0 t1 hf H locs ls hw hl
  unfold fX4_faded_27 at hf
  refine lv_iadd C.1 C.2.1 dX4_faded_27 ?_
  obtain ⟨x2_2, hx2_2, hf⟩ := bnd hf
  refine topi_b hx2_2 ?_
  refine lv_istore_n (lv' := [(2, .int x2_2), (0, .ref (r 0)), (1, .int x1), (3, .int x3)]) C.1 C.2.1 dX4_faded_28 rfl hl (by decide) rfl (fun ls hl => ?_)
  obtain ⟨x3_3, hx3_3, hf⟩ := bnd hf
  refine lv_iinc (v := x3_3) (lv' := [(3, .int x3_3), (2, .int x2_2), (0, .ref (r 0)), (1, .int x1)]) C.1 C.2.1 dX4_faded_29 hl (k := 3) rfl (inc1 hx3_3) (by decide) rfl (fun ls hl => ?_)
  refine lv_goto (tgt := 4) C.1 C.2.1 dX4_faded_32 (by decide) ?_
  exact hk4 x2_2 x3_3 hf _ _ _ hw (lv_sub hl [2, 3, 1, 0] rfl)
def fX4_faded_4 (S : St) (x1 : Int32) : Nat → Int32 → Int32 → Option Int32
  | 0, _, _ => none
  | n + 1, x2, x3 =>
    if (S 35 0) ≤ x3 then
      some x2
    else
      Option.bind (fX4_later S x3 x1) fun v_1 =>
      if v_1 = 0 then
        fX4_faded_27 S x1 (fX4_faded_4 S x1 n) x3 x2 1
      else
        fX4_faded_27 S x1 (fX4_faded_4 S x1 n) x3 x2 0
set_option maxHeartbeats 4000000 in
set_option maxRecDepth 100000 in
theorem wX4_faded_4 {p : Program} {l : Launch} {e : Env} {s : State} {m : MethodId} {args : Array Value} {below : List Frame} {meth : Method} {c : Code} {D : va_G} {k : Nat → ClassId} {r : Nat → Nat} {tf : Nat → Option Nat} {tq : Nat → Nat} {nt : Nat} (C : Ctx p s m args meth c cX4_faded 4 RX4 (some .int)) (E : gEL D k s) {r1 : Int32} (S : St) (x1 : Int32) : ∀ (n : Nat) (x2 : Int32) (x3 : Int32), fX4_faded_4 S x1 n x2 x3 = some r1 → ∀ (H : Heap) (locs : List Loc) (ls : Array Slot), gW D ((SN k r tf tq nt) S) ((SN k r tf tq nt) S) s H locs → lv_has ls 4 [(0, .ref (r 0)), (1, .int x1), (2, .int x2), (3, .int x3)] → W p l e ({ frames := 1, cells := 0, slots := 0, locals := 23 } : Room) s m args below meth c H locs 0 0 (MQ below (gQi D (SN k r tf tq nt) S (fun (r : Int32) (u : St) => r = r1 ∧ u = S) s.heap.size) args s 0 0 (va_A ((SN k r tf tq nt) S) s.heap.size)) (F0 m 4 ls []) := by
  intro n
  induction n with
  | zero => intro x2 x3 hf; rw [fX4_faded_4] at hf; cases hf
  | succ n ih =>
    intro x2 x3 hf H locs ls hw hl
    rw [fX4_faded_4] at hf
    refine lv_iload_n C.1 C.2.1 dX4_faded_4 rfl (lv_at hl 3 rfl) ?_
    refine lv_aload_n C.1 C.2.1 dX4_faded_5 rfl (lv_at hl 0 rfl) ?_
    refine s_get C E hw 1 (by decide) kf_X4_40 rfl dX4_faded_6 ?_
    refine lv_icmp_ge (tgt := 35) C.1 C.2.1 dX4_faded_9 (by decide) (fun hc => ?_) (fun hc => ?_)
    · have hf := ift hc hf
      refine lv_iload_n C.1 C.2.1 dX4_faded_35 rfl (lv_at hl 2 rfl) ?_
      exact g_iret C hw (Nat.le_of_ble_eq_true rfl) (Nat.le_of_ble_eq_true rfl) ⟨Option.some.inj hf, rfl⟩ dX4_faded_36
    · have hf := iff_ hc hf
      refine lv_iload_n C.1 C.2.1 dX4_faded_12 rfl (lv_at hl 2 rfl) ?_
      refine lv_aload_n C.1 C.2.1 dX4_faded_13 rfl (lv_at hl 0 rfl) ?_
      refine lv_iload_n C.1 C.2.1 dX4_faded_14 rfl (lv_at hl 3 rfl) ?_
      refine lv_iload_n C.1 C.2.1 dX4_faded_15 rfl (lv_at hl 1 rfl) ?_
      obtain ⟨v_1, hv_1, hf⟩ := bnd hf
      refine g_cie (wf := (SN k r tf tq nt)) (S := S) (rest := [.int x2]) SN_adr hw (g_runVL (rm := ({ frames := 0, cells := 0, slots := 0, locals := 0 } : Room)) (As := [.int x3, .int x1]) (rest := [.int x2]) C E hw F_X4_later (ctX4_later l (k := k) (D := D) (r := r) (tf := tf) (tq := tq) (nt := nt) S x3 x1 _ hv_1) km_X4_46 0 SN_0 rfl rfl hl.1 rfl (Nat.le_of_ble_eq_true rfl) ⟨(Nat.le_of_ble_eq_true rfl), (Nat.le_of_ble_eq_true rfl)⟩ ⟨(Nat.le_of_ble_eq_true rfl), (Nat.le_of_ble_eq_true rfl)⟩ dX4_faded_16) (fun H locs hw => ?_)
      refine lv_if_ne (tgt := 26) C.1 C.2.1 dX4_faded_19 (by decide) (fun hc => ?_) (fun hc => ?_)
      · have hf := iff_ hc hf
        refine lv_iconst (v := 0) C.1 C.2.1 dX4_faded_26 (by decide) ?_
        exact wX4_faded_27 C E S x1 (fX4_faded_4 S x1 n) ih x3 x2 0 hf _ _ _ hw (lv_sub hl [0, 1, 3] rfl)
      · have hf := ift hc hf
        refine lv_iconst (v := 1) C.1 C.2.1 dX4_faded_22 (by decide) ?_
        refine lv_goto (tgt := 27) C.1 C.2.1 dX4_faded_23 (by decide) ?_
        exact wX4_faded_27 C E S x1 (fX4_faded_4 S x1 n) ih x3 x2 1 hf _ _ _ hw (lv_sub hl [0, 1, 3] rfl)
def fX4_faded (S : St) (x1 : Int32) : Option Int32 :=
  fX4_faded_4 S x1 100 0 0
set_option maxHeartbeats 4000000 in
set_option maxRecDepth 100000 in
theorem ctX4_faded (l : Launch) {D : va_G} {k : Nat → ClassId} {r : Nat → Nat} {tf : Nat → Option Nat} {tq : Nat → Nat} {nt : Nat} (S : St) (x1 : Int32) (sz : Nat) {r1 : Int32} (hf : fX4_faded S x1 = some r1) : Met l yX4_faded (Cond.code yX4_faded cX4_faded 4 (some .int) :: XALL) ({ frames := 1, cells := 0, slots := 0, locals := 23 } : Room) (va_Pc [.ref (r 0), .int x1] (gPreL D k ((SN k r tf tq nt) S) sz)) (gQi D (SN k r tf tq nt) S (fun (r : Int32) (u : St) => r = r1 ∧ u = S) sz) 0 0 (va_A ((SN k r tf tq nt) S) sz) := by
  unfold fX4_faded at hf
  refine Met.ofW (cc := cX4_faded) (maxL := 4) (ret := (some .int)) (by decide) rfl ?_
  intro p e s m args below meth c s₁ B hml hv
  obtain ⟨rfl, hg⟩ := hv
  have C : Ctx p s m _ meth c cX4_faded 4 RX4 (some .int) := Ctx.of B hml rfl
  obtain ⟨E, hw, hsz⟩ := gL_start hg
  subst hsz
  have hl := lv_entry ([.ref (r 0), .int x1]) (n := 4) (Nat.le_of_ble_eq_true rfl)
  rw [lg_entry_eq]
  generalize (lg_sl ([.ref (r 0), .int x1]) ++ List.replicate (4 - (lg_sl ([.ref (r 0), .int x1])).length) Slot.unset).toArray = ls at hl ⊢
  have hl : lv_has ls 4 [(0, .ref (r 0)), (1, .int x1)] := hl
  refine lv_iconst (v := 0) C.1 C.2.1 dX4_faded_0 (by decide) ?_
  refine lv_istore_n (lv' := [(2, .int 0), (0, .ref (r 0)), (1, .int x1)]) C.1 C.2.1 dX4_faded_1 rfl hl (by decide) rfl (fun ls hl => ?_)
  refine lv_iconst (v := 0) C.1 C.2.1 dX4_faded_2 (by decide) ?_
  refine lv_istore_n (lv' := [(3, .int 0), (2, .int 0), (0, .ref (r 0)), (1, .int x1)]) C.1 C.2.1 dX4_faded_3 rfl hl (by decide) rfl (fun ls hl => ?_)
  exact wX4_faded_4 C E S x1 100 0 0 hf _ _ _ hw (lv_sub hl [2, 3, 1, 0] rfl)
end
section
/-! DreamLedger.TagTree.lineFrom -/
def fX1_lineFrom_7 (S : St) : Nat → Int32 → Int32 → Int32 → Option Int32
  | 0, _, _, _ => none
  | n + 1, x2, x3, x4 =>
    if 16 ≤ x4 then
      some x2
    else
      if x3 < 0 then
        some x2
      else
        if (S 14 0) ≤ x3 then
          some x2
        else
          Option.bind (some ((x2 ||| ((1 : Int32) <<< (x3 &&& 31))))) fun x2_1 =>
          Option.bind (ld S 4 16 x3) fun v_2 =>
          Option.bind (some (x4 + 1)) fun x4_3 =>
          fX1_lineFrom_7 S n x2_1 v_2 x4_3
set_option maxHeartbeats 4000000 in
set_option maxRecDepth 100000 in
theorem wX1_lineFrom_7 {p : Program} {l : Launch} {e : Env} {s : State} {m : MethodId} {args : Array Value} {below : List Frame} {meth : Method} {c : Code} {D : va_G} {cI : ClassId} {q : Nat → Nat} (C : Ctx p s m args meth c cX1_lineFrom 5 RX1 (some .int)) (E : gE D cI s) {r1 : Int32} (S : St) : ∀ (n : Nat) (x2 : Int32) (x3 : Int32) (x4 : Int32), fX1_lineFrom_7 S n x2 x3 x4 = some r1 → ∀ (H : Heap) (locs : List Loc) (ls : Array Slot), gW D ((xw cI q) S) ((xw cI q) S) s H locs → lv_has ls 5 [(0, .ref (q 1)), (2, .int x2), (3, .int x3), (4, .int x4)] → W p l e ({ frames := 0, cells := 0, slots := 0, locals := 0 } : Room) s m args below meth c H locs 0 0 (MQ below (gQi D (xw cI q) S (fun (r : Int32) (u : St) => r = r1 ∧ u = S) s.heap.size) args s 0 0 (va_A ((xw cI q) S) s.heap.size)) (F0 m 7 ls []) := by
  intro n
  induction n with
  | zero => intro x2 x3 x4 hf; rw [fX1_lineFrom_7] at hf; cases hf
  | succ n ih =>
    intro x2 x3 x4 hf H locs ls hw hl
    rw [fX1_lineFrom_7] at hf
    refine lv_iload C.1 C.2.1 dX1_lineFrom_7 (lv_at hl 3 rfl) ?_
    refine lv_bipush (v := 16) C.1 C.2.1 dX1_lineFrom_9 (by decide) ?_
    refine lv_icmp_ge (tgt := 45) C.1 C.2.1 dX1_lineFrom_11 (by decide) (fun hc => ?_) (fun hc => ?_)
    · have hf := ift hc hf
      refine lv_iload_n C.1 C.2.1 dX1_lineFrom_45 rfl (lv_at hl 1 rfl) ?_
      exact g_iret C hw (Nat.le_of_ble_eq_true rfl) (Nat.le_of_ble_eq_true rfl) ⟨Option.some.inj hf, rfl⟩ dX1_lineFrom_46
    · have hf := iff_ hc hf
      refine lv_iload_n C.1 C.2.1 dX1_lineFrom_14 rfl (lv_at hl 2 rfl) ?_
      refine lv_if_lt (tgt := 45) C.1 C.2.1 dX1_lineFrom_15 (by decide) (fun hc => ?_) (fun hc => ?_)
      · have hf := ift hc hf
        refine lv_iload_n C.1 C.2.1 dX1_lineFrom_45 rfl (lv_at hl 1 rfl) ?_
        exact g_iret C hw (Nat.le_of_ble_eq_true rfl) (Nat.le_of_ble_eq_true rfl) ⟨Option.some.inj hf, rfl⟩ dX1_lineFrom_46
      · have hf := iff_ hc hf
        refine lv_iload_n C.1 C.2.1 dX1_lineFrom_18 rfl (lv_at hl 2 rfl) ?_
        refine lv_aload_n C.1 C.2.1 dX1_lineFrom_19 rfl (lv_at hl 0 rfl) ?_
        refine g_get C E hw inW1 1 rfl rfl 2 (by decide) kf_X1_18 rfl dX1_lineFrom_20 ?_
        refine lv_icmp_ge (tgt := 45) C.1 C.2.1 dX1_lineFrom_23 (by decide) (fun hc => ?_) (fun hc => ?_)
        · have hf := ift hc hf
          refine lv_iload_n C.1 C.2.1 dX1_lineFrom_45 rfl (lv_at hl 1 rfl) ?_
          exact g_iret C hw (Nat.le_of_ble_eq_true rfl) (Nat.le_of_ble_eq_true rfl) ⟨Option.some.inj hf, rfl⟩ dX1_lineFrom_46
        · have hf := iff_ hc hf
          refine lv_iload_n C.1 C.2.1 dX1_lineFrom_26 rfl (lv_at hl 1 rfl) ?_
          refine lv_iconst (v := 1) C.1 C.2.1 dX1_lineFrom_27 (by decide) ?_
          refine lv_iload_n C.1 C.2.1 dX1_lineFrom_28 rfl (lv_at hl 2 rfl) ?_
          refine lv_ishl C.1 C.2.1 dX1_lineFrom_29 ?_
          refine lv_ior C.1 C.2.1 dX1_lineFrom_30 ?_
          obtain ⟨x2_1, hx2_1, hf⟩ := bnd hf
          refine topi_b hx2_1 ?_
          refine lv_istore_n (lv' := [(2, .int x2_1), (0, .ref (q 1)), (3, .int x3), (4, .int x4)]) C.1 C.2.1 dX1_lineFrom_31 rfl hl (by decide) rfl (fun ls hl => ?_)
          refine lv_aload_n C.1 C.2.1 dX1_lineFrom_32 rfl (lv_at hl 1 rfl) ?_
          refine g_get C E hw inW1 1 rfl rfl 0 (by decide) kf_X1_9 rfl dX1_lineFrom_33 ?_
          refine lv_iload_n C.1 C.2.1 dX1_lineFrom_36 rfl (lv_at hl 2 rfl) ?_
          obtain ⟨v_2, hv_2, hf⟩ := bnd hf
          refine g_ald C E hw 8 rfl (ld_some hv_2) dX1_lineFrom_37 ?_
          refine lv_istore_n (lv' := [(3, .int v_2), (2, .int x2_1), (0, .ref (q 1)), (4, .int x4)]) C.1 C.2.1 dX1_lineFrom_38 rfl hl (by decide) rfl (fun ls hl => ?_)
          obtain ⟨x4_3, hx4_3, hf⟩ := bnd hf
          refine lv_iinc (v := x4_3) (lv' := [(4, .int x4_3), (3, .int v_2), (2, .int x2_1), (0, .ref (q 1))]) C.1 C.2.1 dX1_lineFrom_39 hl (k := 3) rfl (inc1 hx4_3) (by decide) rfl (fun ls hl => ?_)
          refine lv_goto (tgt := 7) C.1 C.2.1 dX1_lineFrom_42 (by decide) ?_
          exact ih x2_1 v_2 x4_3 hf _ _ _ hw (lv_sub hl [3, 2, 1, 0] rfl)
def fX1_lineFrom (S : St) (x1 : Int32) : Option Int32 :=
  fX1_lineFrom_7 S 100 0 x1 0
set_option maxHeartbeats 4000000 in
set_option maxRecDepth 100000 in
theorem ctX1_lineFrom (l : Launch) {D : va_G} {cI : ClassId} {q : Nat → Nat} (S : St) (x1 : Int32) (sz : Nat) {r1 : Int32} (hf : fX1_lineFrom S x1 = some r1) : Met l yX1_lineFrom (Cond.code yX1_lineFrom cX1_lineFrom 5 (some .int) :: XALL) ({ frames := 0, cells := 0, slots := 0, locals := 0 } : Room) (va_Pc [.ref (q 1), .int x1] (gPre D cI ((xw cI q) S) sz)) (gQi D (xw cI q) S (fun (r : Int32) (u : St) => r = r1 ∧ u = S) sz) 0 0 (va_A ((xw cI q) S) sz) := by
  unfold fX1_lineFrom at hf
  refine Met.ofW (cc := cX1_lineFrom) (maxL := 5) (ret := (some .int)) (by decide) rfl ?_
  intro p e s m args below meth c s₁ B hml hv
  obtain ⟨rfl, hg⟩ := hv
  have C : Ctx p s m _ meth c cX1_lineFrom 5 RX1 (some .int) := Ctx.of B hml rfl
  obtain ⟨E, hw, hsz⟩ := g_start hg
  subst hsz
  have hl := lv_entry ([.ref (q 1), .int x1]) (n := 5) (Nat.le_of_ble_eq_true rfl)
  rw [lg_entry_eq]
  generalize (lg_sl ([.ref (q 1), .int x1]) ++ List.replicate (5 - (lg_sl ([.ref (q 1), .int x1])).length) Slot.unset).toArray = ls at hl ⊢
  have hl : lv_has ls 5 [(0, .ref (q 1)), (1, .int x1)] := hl
  refine lv_iconst (v := 0) C.1 C.2.1 dX1_lineFrom_0 (by decide) ?_
  refine lv_istore_n (lv' := [(2, .int 0), (0, .ref (q 1)), (1, .int x1)]) C.1 C.2.1 dX1_lineFrom_1 rfl hl (by decide) rfl (fun ls hl => ?_)
  refine lv_iload_n C.1 C.2.1 dX1_lineFrom_2 rfl (lv_at hl 2 rfl) ?_
  refine lv_istore_n (lv' := [(3, .int x1), (2, .int 0), (0, .ref (q 1)), (1, .int x1)]) C.1 C.2.1 dX1_lineFrom_3 rfl hl (by decide) rfl (fun ls hl => ?_)
  refine lv_iconst (v := 0) C.1 C.2.1 dX1_lineFrom_4 (by decide) ?_
  refine lv_istore (lv' := [(4, .int 0), (3, .int x1), (2, .int 0), (0, .ref (q 1)), (1, .int x1)]) C.1 C.2.1 dX1_lineFrom_5 hl (by decide) rfl (fun ls hl => ?_)
  exact wX1_lineFrom_7 C E S 100 0 x1 0 hf _ _ _ hw (lv_sub hl [3, 2, 1, 0] rfl)
/-! DreamLedger.TagTree.hang -/
def fX1_hang_9 : Nat → St → Int32 → Option St
  | 0, _, _ => none
  | n + 1, S, x3 =>
    if (S 14 0) ≤ x3 then
      some S
    else
      Option.bind (fX1_lineFrom S x3) fun v_2 =>
      Option.bind (sto S 5 16 x3 v_2) fun S_3 =>
      Option.bind (some (x3 + 1)) fun x3_4 =>
      fX1_hang_9 n S_3 x3_4
set_option maxHeartbeats 4000000 in
set_option maxRecDepth 100000 in
theorem wX1_hang_9 {p : Program} {l : Launch} {e : Env} {s : State} {m : MethodId} {args : Array Value} {below : List Frame} {meth : Method} {c : Code} {D : va_G} {cI : ClassId} {q : Nat → Nat} (C : Ctx p s m args meth c cX1_hang 4 RX1 none) (E : gE D cI s) {S0 : St} {S1 : St} : ∀ (n : Nat) (S : St) (x3 : Int32), fX1_hang_9 n S x3 = some S1 → ∀ (H : Heap) (locs : List Loc) (ls : Array Slot), gW D ((xw cI q) S0) ((xw cI q) S) s H locs → lv_has ls 4 [(0, .ref (q 1)), (3, .int x3)] → W p l e ({ frames := 1, cells := 0, slots := 0, locals := 24 } : Room) s m args below meth c H locs 0 0 (MQ below (gQv D (xw cI q) S0 (fun (u : St) => u = S1) s.heap.size) args s 0 0 (va_A ((xw cI q) S0) s.heap.size)) (F0 m 9 ls []) := by
  intro n
  induction n with
  | zero => intro S x3 hf; rw [fX1_hang_9] at hf; cases hf
  | succ n ih =>
    intro S x3 hf H locs ls hw hl
    rw [fX1_hang_9] at hf
    refine lv_iload_n C.1 C.2.1 dX1_hang_9 rfl (lv_at hl 1 rfl) ?_
    refine lv_aload_n C.1 C.2.1 dX1_hang_10 rfl (lv_at hl 0 rfl) ?_
    refine g_get C E hw inW1 1 rfl rfl 2 (by decide) kf_X1_18 rfl dX1_hang_11 ?_
    refine lv_icmp_ge (tgt := 34) C.1 C.2.1 dX1_hang_14 (by decide) (fun hc => ?_) (fun hc => ?_)
    · have hf := ift hc hf
      exact g_vret C hw (Nat.le_of_ble_eq_true rfl) (Nat.le_of_ble_eq_true rfl) (Option.some.inj hf) dX1_hang_34
    · have hf := iff_ hc hf
      refine lv_aload_n C.1 C.2.1 dX1_hang_17 rfl (lv_at hl 0 rfl) ?_
      refine g_get C E hw inW1 1 rfl rfl 1 (by decide) kf_X1_15 rfl dX1_hang_18 ?_
      refine lv_iload_n C.1 C.2.1 dX1_hang_21 rfl (lv_at hl 1 rfl) ?_
      refine lv_aload_n C.1 C.2.1 dX1_hang_22 rfl (lv_at hl 0 rfl) ?_
      refine lv_iload_n C.1 C.2.1 dX1_hang_23 rfl (lv_at hl 1 rfl) ?_
      obtain ⟨v_2, hv_2, hf⟩ := bnd hf
      refine g_cie (wf := (xw cI q)) (S := S) (rest := [.int x3, .ref (q 9)]) xw_adr hw (g_runV (rm := ({ frames := 0, cells := 0, slots := 0, locals := 0 } : Room)) (As := [.int x3]) (rest := [.int x3, .ref (q 9)]) C E hw F_X1_lineFrom (ctX1_lineFrom l (cI := cI) (D := D) (q := q) S x3 _ hv_2) km_X1_26 1 rfl rfl rfl hl.1 rfl (Nat.le_of_ble_eq_true rfl) ⟨(Nat.le_of_ble_eq_true rfl), (Nat.le_of_ble_eq_true rfl)⟩ ⟨(Nat.le_of_ble_eq_true rfl), (Nat.le_of_ble_eq_true rfl)⟩ dX1_hang_24) (fun H locs hw => ?_)
      obtain ⟨S_3, hS_3, hf⟩ := bnd hf
      refine g_ast C E hw 9 rfl (sto_some hS_3).1 (ws' := (xw cI q) S_3) (by rw [← (sto_some hS_3).2]; rfl) dX1_hang_27 (fun H locs hw => ?_)
      obtain ⟨x3_4, hx3_4, hf⟩ := bnd hf
      refine lv_iinc (v := x3_4) (lv' := [(3, .int x3_4), (0, .ref (q 1))]) C.1 C.2.1 dX1_hang_28 hl (k := 1) rfl (inc1 hx3_4) (by decide) rfl (fun ls hl => ?_)
      refine lv_goto (tgt := 9) C.1 C.2.1 dX1_hang_31 (by decide) ?_
      exact ih S_3 x3_4 hf _ _ _ hw (lv_sub hl [1, 0] rfl)
def fX1_hang (S : St) (x1 : Int32) (x2 : Int32) : Option St :=
  Option.bind (sto S 4 16 x1 x2) fun S_1 =>
  fX1_hang_9 100 S_1 0
set_option maxHeartbeats 4000000 in
set_option maxRecDepth 100000 in
theorem ctX1_hang (l : Launch) {D : va_G} {cI : ClassId} {q : Nat → Nat} (S : St) (x1 : Int32) (x2 : Int32) (sz : Nat) {S1 : St} (hf : fX1_hang S x1 x2 = some S1) : Met l yX1_hang (Cond.code yX1_hang cX1_hang 4 none :: XALL) ({ frames := 1, cells := 0, slots := 0, locals := 24 } : Room) (va_Pc [.ref (q 1), .int x1, .int x2] (gPre D cI ((xw cI q) S) sz)) (gQv D (xw cI q) S (fun (u : St) => u = S1) sz) 0 0 (va_A ((xw cI q) S) sz) := by
  unfold fX1_hang at hf
  refine Met.ofW (cc := cX1_hang) (maxL := 4) (ret := none) (by decide) rfl ?_
  intro p e s m args below meth c s₁ B hml hv
  obtain ⟨rfl, hg⟩ := hv
  have C : Ctx p s m _ meth c cX1_hang 4 RX1 none := Ctx.of B hml rfl
  obtain ⟨E, hw, hsz⟩ := g_start hg
  subst hsz
  have hl := lv_entry ([.ref (q 1), .int x1, .int x2]) (n := 4) (Nat.le_of_ble_eq_true rfl)
  rw [lg_entry_eq]
  generalize (lg_sl ([.ref (q 1), .int x1, .int x2]) ++ List.replicate (4 - (lg_sl ([.ref (q 1), .int x1, .int x2])).length) Slot.unset).toArray = ls at hl ⊢
  have hl : lv_has ls 4 [(0, .ref (q 1)), (1, .int x1), (2, .int x2)] := hl
  refine lv_aload_n C.1 C.2.1 dX1_hang_0 rfl (lv_at hl 0 rfl) ?_
  refine g_get C E hw inW1 1 rfl rfl 0 (by decide) kf_X1_9 rfl dX1_hang_1 ?_
  refine lv_iload_n C.1 C.2.1 dX1_hang_4 rfl (lv_at hl 1 rfl) ?_
  refine lv_iload_n C.1 C.2.1 dX1_hang_5 rfl (lv_at hl 2 rfl) ?_
  obtain ⟨S_1, hS_1, hf⟩ := bnd hf
  refine g_ast C E hw 8 rfl (sto_some hS_1).1 (ws' := (xw cI q) S_1) (by rw [← (sto_some hS_1).2]; rfl) dX1_hang_6 (fun H locs hw => ?_)
  refine lv_iconst (v := 0) C.1 C.2.1 dX1_hang_7 (by decide) ?_
  refine lv_istore_n (lv' := [(3, .int 0), (0, .ref (q 1)), (1, .int x1), (2, .int x2)]) C.1 C.2.1 dX1_hang_8 rfl hl (by decide) rfl (fun ls hl => ?_)
  exact wX1_hang_9 C E 100 S_1 0 hf _ _ _ hw (lv_sub hl [1, 0] rfl)
/-! DreamLedger.TagTree.grow -/
def fX1_grow (S : St) : Option (Int32 × St) :=
  Option.bind (some ((S 14 0))) fun x1_1 =>
  Option.bind (some (up S 14 0 ((S 14 0) + 1))) fun S_2 =>
  Option.bind (fX1_hang S_2 x1_1 (-1)) fun S_3 =>
  some (x1_1, S_3)
set_option maxHeartbeats 4000000 in
set_option maxRecDepth 100000 in
theorem ctX1_grow (l : Launch) {D : va_G} {cI : ClassId} {q : Nat → Nat} (S : St) (sz : Nat) {r1 : Int32} {S1 : St} (hf : fX1_grow S = some (r1, S1)) : Met l yX1_grow (Cond.code yX1_grow cX1_grow 2 (some .int) :: XALL) ({ frames := 2, cells := 0, slots := 0, locals := 47 } : Room) (va_Pc [.ref (q 1)] (gPre D cI ((xw cI q) S) sz)) (gQi D (xw cI q) S (fun (r : Int32) (u : St) => r = r1 ∧ u = S1) sz) 0 0 (va_A ((xw cI q) S) sz) := by
  unfold fX1_grow at hf
  refine Met.ofW (cc := cX1_grow) (maxL := 2) (ret := (some .int)) (by decide) rfl ?_
  intro p e s m args below meth c s₁ B hml hv
  obtain ⟨rfl, hg⟩ := hv
  have C : Ctx p s m _ meth c cX1_grow 2 RX1 (some .int) := Ctx.of B hml rfl
  obtain ⟨E, hw, hsz⟩ := g_start hg
  subst hsz
  have hl := lv_entry ([.ref (q 1)]) (n := 2) (Nat.le_of_ble_eq_true rfl)
  rw [lg_entry_eq]
  generalize (lg_sl ([.ref (q 1)]) ++ List.replicate (2 - (lg_sl ([.ref (q 1)])).length) Slot.unset).toArray = ls at hl ⊢
  have hl : lv_has ls 2 [(0, .ref (q 1))] := hl
  refine lv_aload_n C.1 C.2.1 dX1_grow_0 rfl (lv_at hl 0 rfl) ?_
  refine g_get C E hw inW1 1 rfl rfl 2 (by decide) kf_X1_18 rfl dX1_grow_1 ?_
  obtain ⟨x1_1, hx1_1, hf⟩ := bnd hf
  refine topi_b hx1_1 ?_
  refine lv_istore_n (lv' := [(1, .int x1_1), (0, .ref (q 1))]) C.1 C.2.1 dX1_grow_4 rfl hl (by decide) rfl (fun ls hl => ?_)
  refine lv_aload_n C.1 C.2.1 dX1_grow_5 rfl (lv_at hl 1 rfl) ?_
  refine lv_dup C.1 C.2.1 dX1_grow_6 rfl ?_
  refine g_get C E hw inW1 1 rfl rfl 2 (by decide) kf_X1_18 rfl dX1_grow_7 ?_
  refine lv_iconst (v := 1) C.1 C.2.1 dX1_grow_10 (by decide) ?_
  refine lv_iadd C.1 C.2.1 dX1_grow_11 ?_
  obtain ⟨S_2, hS_2, hf⟩ := bnd hf
  refine g_put C E hw inW1 tyX1 tyX1_ok nmX1 1 rfl rfl 2 (by decide) kf_X1_18 rfl (by decide +kernel) (Nat.le_of_ble_eq_true rfl) (ws' := (xw cI q) S_2) (by rw [← Option.some.inj hS_2]; rfl) dX1_grow_12 (fun H locs hw => ?_)
  refine lv_aload_n C.1 C.2.1 dX1_grow_15 rfl (lv_at hl 1 rfl) ?_
  refine lv_iload_n C.1 C.2.1 dX1_grow_16 rfl (lv_at hl 0 rfl) ?_
  refine lv_iconst (v := (-1)) C.1 C.2.1 dX1_grow_17 (by decide) ?_
  obtain ⟨S_3, hS_3, hf⟩ := bnd hf
  refine g_cve (wf := (xw cI q)) (S := S_2) (rest := []) xw_adr hw (g_runV (rm := ({ frames := 1, cells := 0, slots := 0, locals := 24 } : Room)) (As := [.int x1_1, .int (-1)]) (rest := []) C E hw F_X1_hang (ctX1_hang l (cI := cI) (D := D) (q := q) S_2 x1_1 (-1) _ hS_3) km_X1_22 1 rfl rfl rfl hl.1 rfl (Nat.le_of_ble_eq_true rfl) ⟨(Nat.le_of_ble_eq_true rfl), (Nat.le_of_ble_eq_true rfl)⟩ ⟨(Nat.le_of_ble_eq_true rfl), (Nat.le_of_ble_eq_true rfl)⟩ dX1_grow_18) (fun H locs hw => ?_)
  refine lv_iload_n C.1 C.2.1 dX1_grow_21 rfl (lv_at hl 0 rfl) ?_
  exact g_iret C hw (Nat.le_of_ble_eq_true rfl) (Nat.le_of_ble_eq_true rfl) ⟨congrArg Prod.fst (Option.some.inj hf), congrArg Prod.snd (Option.some.inj hf)⟩ dX1_grow_22
/-! DreamLedger.isIn -/
def fX3_isIn (x0 : Int32) (x1 : Int32) : Option Int32 :=
  if ((x1 >>> (x0 &&& 31)) &&& 1) = 0 then
    some 0
  else
    some 1
set_option maxHeartbeats 4000000 in
set_option maxRecDepth 100000 in
theorem ctX3_isIn (l : Launch) (x0 : Int32) (x1 : Int32) {r1 : Int32} (hf : fX3_isIn x0 x1 = some r1) : Met l yX3_isIn (Cond.code yX3_isIn cX3_isIn 2 (some .boolean) :: XALL) ({ frames := 0, cells := 0, slots := 0, locals := 0 } : Room) (va_Pc [.int x0, .int x1] (fun _ => True)) (zQi r1) 0 0 (fun _ => False) := by
  unfold fX3_isIn at hf
  refine Met.ofW (cc := cX3_isIn) (maxL := 2) (ret := (some .boolean)) (by decide) rfl ?_
  intro p e s m args below meth c s₁ B hml hv
  obtain ⟨rfl, hg⟩ := hv
  have C : Ctx p s m _ meth c cX3_isIn 2 RX3 (some .boolean) := Ctx.of B hml rfl
  have hw : zS s s.heap [] := va_S.rf
  have hl := lv_entry ([.int x0, .int x1]) (n := 2) (Nat.le_of_ble_eq_true rfl)
  rw [lg_entry_eq]
  generalize (lg_sl ([.int x0, .int x1]) ++ List.replicate (2 - (lg_sl ([.int x0, .int x1])).length) Slot.unset).toArray = ls at hl ⊢
  have hl : lv_has ls 2 [(0, .int x0), (1, .int x1)] := hl
  refine lv_iload_n C.1 C.2.1 dX3_isIn_0 rfl (lv_at hl 1 rfl) ?_
  refine lv_iload_n C.1 C.2.1 dX3_isIn_1 rfl (lv_at hl 0 rfl) ?_
  refine lv_ishr C.1 C.2.1 dX3_isIn_2 ?_
  refine lv_iconst (v := 1) C.1 C.2.1 dX3_isIn_3 (by decide) ?_
  refine lv_iand C.1 C.2.1 dX3_isIn_4 ?_
  refine lv_if_eq (tgt := 12) C.1 C.2.1 dX3_isIn_5 (by decide) (fun hc => ?_) (fun hc => ?_)
  · have hf := ift hc hf
    refine lv_iconst (v := 0) C.1 C.2.1 dX3_isIn_12 (by decide) ?_
    exact z_zret C hw (Nat.le_of_ble_eq_true rfl) (Nat.le_of_ble_eq_true rfl) (Or.inl rfl) (Option.some.inj hf) dX3_isIn_13
  · have hf := iff_ hc hf
    refine lv_iconst (v := 1) C.1 C.2.1 dX3_isIn_8 (by decide) ?_
    refine lv_goto (tgt := 13) C.1 C.2.1 dX3_isIn_9 (by decide) ?_
    exact z_zret C hw (Nat.le_of_ble_eq_true rfl) (Nat.le_of_ble_eq_true rfl) (Or.inr rfl) (Option.some.inj hf) dX3_isIn_13
/-! DreamLedger.TagTree.standsBelow -/
def fX1_standsBelow (S : St) (x1 : Int32) (x2 : Int32) : Option Int32 :=
  if x1 = x2 then
    some 0
  else
    Option.bind (ld S 5 16 x1) fun v_1 =>
    Option.bind (fX3_isIn x2 v_1) fun v_2 =>
    if v_2 = 0 then
      some 0
    else
      some 1
set_option maxHeartbeats 4000000 in
set_option maxRecDepth 100000 in
theorem ctX1_standsBelow (l : Launch) {D : va_G} {cI : ClassId} {q : Nat → Nat} (S : St) (x1 : Int32) (x2 : Int32) (sz : Nat) {r1 : Int32} (hf : fX1_standsBelow S x1 x2 = some r1) : Met l yX1_standsBelow (Cond.code yX1_standsBelow cX1_standsBelow 3 (some .boolean) :: XALL) ({ frames := 1, cells := 0, slots := 0, locals := 21 } : Room) (va_Pc [.ref (q 1), .int x1, .int x2] (gPre D cI ((xw cI q) S) sz)) (gQi D (xw cI q) S (fun (r : Int32) (u : St) => r = r1 ∧ u = S) sz) 0 0 (va_A ((xw cI q) S) sz) := by
  unfold fX1_standsBelow at hf
  refine Met.ofW (cc := cX1_standsBelow) (maxL := 3) (ret := (some .boolean)) (by decide) rfl ?_
  intro p e s m args below meth c s₁ B hml hv
  obtain ⟨rfl, hg⟩ := hv
  have C : Ctx p s m _ meth c cX1_standsBelow 3 RX1 (some .boolean) := Ctx.of B hml rfl
  obtain ⟨E, hw, hsz⟩ := g_start hg
  subst hsz
  have hl := lv_entry ([.ref (q 1), .int x1, .int x2]) (n := 3) (Nat.le_of_ble_eq_true rfl)
  rw [lg_entry_eq]
  generalize (lg_sl ([.ref (q 1), .int x1, .int x2]) ++ List.replicate (3 - (lg_sl ([.ref (q 1), .int x1, .int x2])).length) Slot.unset).toArray = ls at hl ⊢
  have hl : lv_has ls 3 [(0, .ref (q 1)), (1, .int x1), (2, .int x2)] := hl
  refine lv_iload_n C.1 C.2.1 dX1_standsBelow_0 rfl (lv_at hl 1 rfl) ?_
  refine lv_iload_n C.1 C.2.1 dX1_standsBelow_1 rfl (lv_at hl 2 rfl) ?_
  refine lv_icmp_eq (tgt := 22) C.1 C.2.1 dX1_standsBelow_2 (by decide) (fun hc => ?_) (fun hc => ?_)
  · have hf := ift hc hf
    refine lv_iconst (v := 0) C.1 C.2.1 dX1_standsBelow_22 (by decide) ?_
    exact g_zret C hw (Nat.le_of_ble_eq_true rfl) (Nat.le_of_ble_eq_true rfl) (Or.inl rfl) ⟨Option.some.inj hf, rfl⟩ dX1_standsBelow_23
  · have hf := iff_ hc hf
    refine lv_iload_n C.1 C.2.1 dX1_standsBelow_5 rfl (lv_at hl 2 rfl) ?_
    refine lv_aload_n C.1 C.2.1 dX1_standsBelow_6 rfl (lv_at hl 0 rfl) ?_
    refine g_get C E hw inW1 1 rfl rfl 1 (by decide) kf_X1_15 rfl dX1_standsBelow_7 ?_
    refine lv_iload_n C.1 C.2.1 dX1_standsBelow_10 rfl (lv_at hl 1 rfl) ?_
    obtain ⟨v_1, hv_1, hf⟩ := bnd hf
    refine g_ald C E hw 9 rfl (ld_some hv_1) dX1_standsBelow_11 ?_
    obtain ⟨v_2, hv_2, hf⟩ := bnd hf
    refine g_ci0e (rest := []) hw (g_run0N (rm := ({ frames := 0, cells := 0, slots := 0, locals := 0 } : Room)) (As := [.int x2, .int v_1]) (rest := []) C E F_X3_isIn (ctX3_isIn l x2 v_1 hv_2) kmN_X1_30 rfl hl.1 rfl (Nat.le_of_ble_eq_true rfl) ⟨(Nat.le_of_ble_eq_true rfl), (Nat.le_of_ble_eq_true rfl)⟩ ⟨(Nat.le_of_ble_eq_true rfl), (Nat.le_of_ble_eq_true rfl)⟩ dX1_standsBelow_12) (fun H locs hw => ?_)
    refine lv_if_eq (tgt := 22) C.1 C.2.1 dX1_standsBelow_15 (by decide) (fun hc => ?_) (fun hc => ?_)
    · have hf := ift hc hf
      refine lv_iconst (v := 0) C.1 C.2.1 dX1_standsBelow_22 (by decide) ?_
      exact g_zret C hw (Nat.le_of_ble_eq_true rfl) (Nat.le_of_ble_eq_true rfl) (Or.inl rfl) ⟨Option.some.inj hf, rfl⟩ dX1_standsBelow_23
    · have hf := iff_ hc hf
      refine lv_iconst (v := 1) C.1 C.2.1 dX1_standsBelow_18 (by decide) ?_
      refine lv_goto (tgt := 23) C.1 C.2.1 dX1_standsBelow_19 (by decide) ?_
      exact g_zret C hw (Nat.le_of_ble_eq_true rfl) (Nat.le_of_ble_eq_true rfl) (Or.inr rfl) ⟨Option.some.inj hf, rfl⟩ dX1_standsBelow_23
/-! DreamLedger.TagTree.canHang -/
def fX1_canHang (S : St) (x1 : Int32) (x2 : Int32) : Option Int32 :=
  if x1 = x2 then
    some 0
  else
    Option.bind (fX1_standsBelow S x2 x1) fun v_1 =>
    if v_1 = 0 then
      some 1
    else
      some 0
set_option maxHeartbeats 4000000 in
set_option maxRecDepth 100000 in
theorem ctX1_canHang (l : Launch) {D : va_G} {cI : ClassId} {q : Nat → Nat} (S : St) (x1 : Int32) (x2 : Int32) (sz : Nat) {r1 : Int32} (hf : fX1_canHang S x1 x2 = some r1) : Met l yX1_canHang (Cond.code yX1_canHang cX1_canHang 3 (some .boolean) :: XALL) ({ frames := 2, cells := 0, slots := 0, locals := 43 } : Room) (va_Pc [.ref (q 1), .int x1, .int x2] (gPre D cI ((xw cI q) S) sz)) (gQi D (xw cI q) S (fun (r : Int32) (u : St) => r = r1 ∧ u = S) sz) 0 0 (va_A ((xw cI q) S) sz) := by
  unfold fX1_canHang at hf
  refine Met.ofW (cc := cX1_canHang) (maxL := 3) (ret := (some .boolean)) (by decide) rfl ?_
  intro p e s m args below meth c s₁ B hml hv
  obtain ⟨rfl, hg⟩ := hv
  have C : Ctx p s m _ meth c cX1_canHang 3 RX1 (some .boolean) := Ctx.of B hml rfl
  obtain ⟨E, hw, hsz⟩ := g_start hg
  subst hsz
  have hl := lv_entry ([.ref (q 1), .int x1, .int x2]) (n := 3) (Nat.le_of_ble_eq_true rfl)
  rw [lg_entry_eq]
  generalize (lg_sl ([.ref (q 1), .int x1, .int x2]) ++ List.replicate (3 - (lg_sl ([.ref (q 1), .int x1, .int x2])).length) Slot.unset).toArray = ls at hl ⊢
  have hl : lv_has ls 3 [(0, .ref (q 1)), (1, .int x1), (2, .int x2)] := hl
  refine lv_iload_n C.1 C.2.1 dX1_canHang_0 rfl (lv_at hl 1 rfl) ?_
  refine lv_iload_n C.1 C.2.1 dX1_canHang_1 rfl (lv_at hl 2 rfl) ?_
  refine lv_icmp_eq (tgt := 18) C.1 C.2.1 dX1_canHang_2 (by decide) (fun hc => ?_) (fun hc => ?_)
  · have hf := ift hc hf
    refine lv_iconst (v := 0) C.1 C.2.1 dX1_canHang_18 (by decide) ?_
    exact g_zret C hw (Nat.le_of_ble_eq_true rfl) (Nat.le_of_ble_eq_true rfl) (Or.inl rfl) ⟨Option.some.inj hf, rfl⟩ dX1_canHang_19
  · have hf := iff_ hc hf
    refine lv_aload_n C.1 C.2.1 dX1_canHang_5 rfl (lv_at hl 0 rfl) ?_
    refine lv_iload_n C.1 C.2.1 dX1_canHang_6 rfl (lv_at hl 2 rfl) ?_
    refine lv_iload_n C.1 C.2.1 dX1_canHang_7 rfl (lv_at hl 1 rfl) ?_
    obtain ⟨v_1, hv_1, hf⟩ := bnd hf
    refine g_cie (wf := (xw cI q)) (S := S) (rest := []) xw_adr hw (g_runV (rm := ({ frames := 1, cells := 0, slots := 0, locals := 21 } : Room)) (As := [.int x2, .int x1]) (rest := []) C E hw F_X1_standsBelow (ctX1_standsBelow l (cI := cI) (D := D) (q := q) S x2 x1 _ hv_1) km_X1_34 1 rfl rfl rfl hl.1 rfl (Nat.le_of_ble_eq_true rfl) ⟨(Nat.le_of_ble_eq_true rfl), (Nat.le_of_ble_eq_true rfl)⟩ ⟨(Nat.le_of_ble_eq_true rfl), (Nat.le_of_ble_eq_true rfl)⟩ dX1_canHang_8) (fun H locs hw => ?_)
    refine lv_if_ne (tgt := 18) C.1 C.2.1 dX1_canHang_11 (by decide) (fun hc => ?_) (fun hc => ?_)
    · have hf := iff_ hc hf
      refine lv_iconst (v := 0) C.1 C.2.1 dX1_canHang_18 (by decide) ?_
      exact g_zret C hw (Nat.le_of_ble_eq_true rfl) (Nat.le_of_ble_eq_true rfl) (Or.inl rfl) ⟨Option.some.inj hf, rfl⟩ dX1_canHang_19
    · have hf := ift hc hf
      refine lv_iconst (v := 1) C.1 C.2.1 dX1_canHang_14 (by decide) ?_
      refine lv_goto (tgt := 19) C.1 C.2.1 dX1_canHang_15 (by decide) ?_
      exact g_zret C hw (Nat.le_of_ble_eq_true rfl) (Nat.le_of_ble_eq_true rfl) (Or.inr rfl) ⟨Option.some.inj hf, rfl⟩ dX1_canHang_19
/-! DreamLedger.TagTree.linesOf -/
def fX1_linesOf_4 (S : St) (x1 : Int32) : Nat → Int32 → Int32 → Option Int32
  | 0, _, _ => none
  | n + 1, x2, x3 =>
    if (S 14 0) ≤ x3 then
      some x2
    else
      Option.bind (fX3_isIn x3 x1) fun v_1 =>
      if v_1 = 0 then
        Option.bind (some (x3 + 1)) fun x3_2 =>
        fX1_linesOf_4 S x1 n x2 x3_2
      else
        Option.bind (ld S 5 16 x3) fun v_3 =>
        Option.bind (some ((x2 ||| v_3))) fun x2_4 =>
        Option.bind (some (x3 + 1)) fun x3_5 =>
        fX1_linesOf_4 S x1 n x2_4 x3_5
set_option maxHeartbeats 4000000 in
set_option maxRecDepth 100000 in
theorem wX1_linesOf_4 {p : Program} {l : Launch} {e : Env} {s : State} {m : MethodId} {args : Array Value} {below : List Frame} {meth : Method} {c : Code} {D : va_G} {cI : ClassId} {q : Nat → Nat} (C : Ctx p s m args meth c cX1_linesOf 4 RX1 (some .int)) (E : gE D cI s) {r1 : Int32} (S : St) (x1 : Int32) : ∀ (n : Nat) (x2 : Int32) (x3 : Int32), fX1_linesOf_4 S x1 n x2 x3 = some r1 → ∀ (H : Heap) (locs : List Loc) (ls : Array Slot), gW D ((xw cI q) S) ((xw cI q) S) s H locs → lv_has ls 4 [(0, .ref (q 1)), (1, .int x1), (2, .int x2), (3, .int x3)] → W p l e ({ frames := 1, cells := 0, slots := 0, locals := 21 } : Room) s m args below meth c H locs 0 0 (MQ below (gQi D (xw cI q) S (fun (r : Int32) (u : St) => r = r1 ∧ u = S) s.heap.size) args s 0 0 (va_A ((xw cI q) S) s.heap.size)) (F0 m 4 ls []) := by
  intro n
  induction n with
  | zero => intro x2 x3 hf; rw [fX1_linesOf_4] at hf; cases hf
  | succ n ih =>
    intro x2 x3 hf H locs ls hw hl
    rw [fX1_linesOf_4] at hf
    refine lv_iload_n C.1 C.2.1 dX1_linesOf_4 rfl (lv_at hl 3 rfl) ?_
    refine lv_aload_n C.1 C.2.1 dX1_linesOf_5 rfl (lv_at hl 0 rfl) ?_
    refine g_get C E hw inW1 1 rfl rfl 2 (by decide) kf_X1_18 rfl dX1_linesOf_6 ?_
    refine lv_icmp_ge (tgt := 35) C.1 C.2.1 dX1_linesOf_9 (by decide) (fun hc => ?_) (fun hc => ?_)
    · have hf := ift hc hf
      refine lv_iload_n C.1 C.2.1 dX1_linesOf_35 rfl (lv_at hl 2 rfl) ?_
      exact g_iret C hw (Nat.le_of_ble_eq_true rfl) (Nat.le_of_ble_eq_true rfl) ⟨Option.some.inj hf, rfl⟩ dX1_linesOf_36
    · have hf := iff_ hc hf
      refine lv_iload_n C.1 C.2.1 dX1_linesOf_12 rfl (lv_at hl 3 rfl) ?_
      refine lv_iload_n C.1 C.2.1 dX1_linesOf_13 rfl (lv_at hl 1 rfl) ?_
      obtain ⟨v_1, hv_1, hf⟩ := bnd hf
      refine g_ci0e (rest := []) hw (g_run0N (rm := ({ frames := 0, cells := 0, slots := 0, locals := 0 } : Room)) (As := [.int x3, .int x1]) (rest := []) C E F_X3_isIn (ctX3_isIn l x3 x1 hv_1) kmN_X1_30 rfl hl.1 rfl (Nat.le_of_ble_eq_true rfl) ⟨(Nat.le_of_ble_eq_true rfl), (Nat.le_of_ble_eq_true rfl)⟩ ⟨(Nat.le_of_ble_eq_true rfl), (Nat.le_of_ble_eq_true rfl)⟩ dX1_linesOf_14) (fun H locs hw => ?_)
      refine lv_if_eq (tgt := 29) C.1 C.2.1 dX1_linesOf_17 (by decide) (fun hc => ?_) (fun hc => ?_)
      · have hf := ift hc hf
        obtain ⟨x3_2, hx3_2, hf⟩ := bnd hf
        refine lv_iinc (v := x3_2) (lv' := [(3, .int x3_2), (0, .ref (q 1)), (1, .int x1), (2, .int x2)]) C.1 C.2.1 dX1_linesOf_29 hl (k := 3) rfl (inc1 hx3_2) (by decide) rfl (fun ls hl => ?_)
        refine lv_goto (tgt := 4) C.1 C.2.1 dX1_linesOf_32 (by decide) ?_
        exact ih x2 x3_2 hf _ _ _ hw (lv_sub hl [1, 2, 3, 0] rfl)
      · have hf := iff_ hc hf
        refine lv_iload_n C.1 C.2.1 dX1_linesOf_20 rfl (lv_at hl 2 rfl) ?_
        refine lv_aload_n C.1 C.2.1 dX1_linesOf_21 rfl (lv_at hl 0 rfl) ?_
        refine g_get C E hw inW1 1 rfl rfl 1 (by decide) kf_X1_15 rfl dX1_linesOf_22 ?_
        refine lv_iload_n C.1 C.2.1 dX1_linesOf_25 rfl (lv_at hl 3 rfl) ?_
        obtain ⟨v_3, hv_3, hf⟩ := bnd hf
        refine g_ald C E hw 9 rfl (ld_some hv_3) dX1_linesOf_26 ?_
        refine lv_ior C.1 C.2.1 dX1_linesOf_27 ?_
        obtain ⟨x2_4, hx2_4, hf⟩ := bnd hf
        refine topi_b hx2_4 ?_
        refine lv_istore_n (lv' := [(2, .int x2_4), (0, .ref (q 1)), (1, .int x1), (3, .int x3)]) C.1 C.2.1 dX1_linesOf_28 rfl hl (by decide) rfl (fun ls hl => ?_)
        obtain ⟨x3_5, hx3_5, hf⟩ := bnd hf
        refine lv_iinc (v := x3_5) (lv' := [(3, .int x3_5), (2, .int x2_4), (0, .ref (q 1)), (1, .int x1)]) C.1 C.2.1 dX1_linesOf_29 hl (k := 3) rfl (inc1 hx3_5) (by decide) rfl (fun ls hl => ?_)
        refine lv_goto (tgt := 4) C.1 C.2.1 dX1_linesOf_32 (by decide) ?_
        exact ih x2_4 x3_5 hf _ _ _ hw (lv_sub hl [2, 3, 1, 0] rfl)
def fX1_linesOf (S : St) (x1 : Int32) : Option Int32 :=
  fX1_linesOf_4 S x1 100 0 0
set_option maxHeartbeats 4000000 in
set_option maxRecDepth 100000 in
theorem ctX1_linesOf (l : Launch) {D : va_G} {cI : ClassId} {q : Nat → Nat} (S : St) (x1 : Int32) (sz : Nat) {r1 : Int32} (hf : fX1_linesOf S x1 = some r1) : Met l yX1_linesOf (Cond.code yX1_linesOf cX1_linesOf 4 (some .int) :: XALL) ({ frames := 1, cells := 0, slots := 0, locals := 21 } : Room) (va_Pc [.ref (q 1), .int x1] (gPre D cI ((xw cI q) S) sz)) (gQi D (xw cI q) S (fun (r : Int32) (u : St) => r = r1 ∧ u = S) sz) 0 0 (va_A ((xw cI q) S) sz) := by
  unfold fX1_linesOf at hf
  refine Met.ofW (cc := cX1_linesOf) (maxL := 4) (ret := (some .int)) (by decide) rfl ?_
  intro p e s m args below meth c s₁ B hml hv
  obtain ⟨rfl, hg⟩ := hv
  have C : Ctx p s m _ meth c cX1_linesOf 4 RX1 (some .int) := Ctx.of B hml rfl
  obtain ⟨E, hw, hsz⟩ := g_start hg
  subst hsz
  have hl := lv_entry ([.ref (q 1), .int x1]) (n := 4) (Nat.le_of_ble_eq_true rfl)
  rw [lg_entry_eq]
  generalize (lg_sl ([.ref (q 1), .int x1]) ++ List.replicate (4 - (lg_sl ([.ref (q 1), .int x1])).length) Slot.unset).toArray = ls at hl ⊢
  have hl : lv_has ls 4 [(0, .ref (q 1)), (1, .int x1)] := hl
  refine lv_iconst (v := 0) C.1 C.2.1 dX1_linesOf_0 (by decide) ?_
  refine lv_istore_n (lv' := [(2, .int 0), (0, .ref (q 1)), (1, .int x1)]) C.1 C.2.1 dX1_linesOf_1 rfl hl (by decide) rfl (fun ls hl => ?_)
  refine lv_iconst (v := 0) C.1 C.2.1 dX1_linesOf_2 (by decide) ?_
  refine lv_istore_n (lv' := [(3, .int 0), (2, .int 0), (0, .ref (q 1)), (1, .int x1)]) C.1 C.2.1 dX1_linesOf_3 rfl hl (by decide) rfl (fun ls hl => ?_)
  exact wX1_linesOf_4 C E S x1 100 0 0 hf _ _ _ hw (lv_sub hl [2, 3, 1, 0] rfl)
/-! DreamLedger.TermList.matchedAhead -/
def fX2_matchedAhead (S : St) (x1 : Int32) (x2 : Int32) : Option Int32 :=
  if x1 < 0 then
    some 0
  else
    if x2 ≤ x1 then
      some 0
    else
      Option.bind (ld S 9 20 x1) fun v_1 =>
      some v_1
set_option maxHeartbeats 4000000 in
set_option maxRecDepth 100000 in
theorem ctX2_matchedAhead (l : Launch) {D : va_G} {cI : ClassId} {q : Nat → Nat} (S : St) (x1 : Int32) (x2 : Int32) (sz : Nat) {r1 : Int32} (hf : fX2_matchedAhead S x1 x2 = some r1) : Met l yX2_matchedAhead (Cond.code yX2_matchedAhead cX2_matchedAhead 3 (some .int) :: XALL) ({ frames := 0, cells := 0, slots := 0, locals := 0 } : Room) (va_Pc [.ref (q 2), .int x1, .int x2] (gPre D cI ((xw cI q) S) sz)) (gQi D (xw cI q) S (fun (r : Int32) (u : St) => r = r1 ∧ u = S) sz) 0 0 (va_A ((xw cI q) S) sz) := by
  unfold fX2_matchedAhead at hf
  refine Met.ofW (cc := cX2_matchedAhead) (maxL := 3) (ret := (some .int)) (by decide) rfl ?_
  intro p e s m args below meth c s₁ B hml hv
  obtain ⟨rfl, hg⟩ := hv
  have C : Ctx p s m _ meth c cX2_matchedAhead 3 RX2 (some .int) := Ctx.of B hml rfl
  obtain ⟨E, hw, hsz⟩ := g_start hg
  subst hsz
  have hl := lv_entry ([.ref (q 2), .int x1, .int x2]) (n := 3) (Nat.le_of_ble_eq_true rfl)
  rw [lg_entry_eq]
  generalize (lg_sl ([.ref (q 2), .int x1, .int x2]) ++ List.replicate (3 - (lg_sl ([.ref (q 2), .int x1, .int x2])).length) Slot.unset).toArray = ls at hl ⊢
  have hl : lv_has ls 3 [(0, .ref (q 2)), (1, .int x1), (2, .int x2)] := hl
  refine lv_iload_n C.1 C.2.1 dX2_matchedAhead_0 rfl (lv_at hl 1 rfl) ?_
  refine lv_if_lt (tgt := 18) C.1 C.2.1 dX2_matchedAhead_1 (by decide) (fun hc => ?_) (fun hc => ?_)
  · have hf := ift hc hf
    refine lv_iconst (v := 0) C.1 C.2.1 dX2_matchedAhead_18 (by decide) ?_
    exact g_iret C hw (Nat.le_of_ble_eq_true rfl) (Nat.le_of_ble_eq_true rfl) ⟨Option.some.inj hf, rfl⟩ dX2_matchedAhead_19
  · have hf := iff_ hc hf
    refine lv_iload_n C.1 C.2.1 dX2_matchedAhead_4 rfl (lv_at hl 1 rfl) ?_
    refine lv_iload_n C.1 C.2.1 dX2_matchedAhead_5 rfl (lv_at hl 2 rfl) ?_
    refine lv_icmp_ge (tgt := 18) C.1 C.2.1 dX2_matchedAhead_6 (by decide) (fun hc => ?_) (fun hc => ?_)
    · have hf := ift hc hf
      refine lv_iconst (v := 0) C.1 C.2.1 dX2_matchedAhead_18 (by decide) ?_
      exact g_iret C hw (Nat.le_of_ble_eq_true rfl) (Nat.le_of_ble_eq_true rfl) ⟨Option.some.inj hf, rfl⟩ dX2_matchedAhead_19
    · have hf := iff_ hc hf
      refine lv_aload_n C.1 C.2.1 dX2_matchedAhead_9 rfl (lv_at hl 0 rfl) ?_
      refine g_get C E hw inW2 2 rfl rfl 3 (by decide) kf_X2_21 rfl dX2_matchedAhead_10 ?_
      refine lv_iload_n C.1 C.2.1 dX2_matchedAhead_13 rfl (lv_at hl 1 rfl) ?_
      obtain ⟨v_1, hv_1, hf⟩ := bnd hf
      refine g_ald C E hw 13 rfl (ld_some hv_1) dX2_matchedAhead_14 ?_
      refine lv_goto (tgt := 19) C.1 C.2.1 dX2_matchedAhead_15 (by decide) ?_
      exact g_iret C hw (Nat.le_of_ble_eq_true rfl) (Nat.le_of_ble_eq_true rfl) ⟨Option.some.inj hf, rfl⟩ dX2_matchedAhead_19
/-! DreamLedger.TermList.combine -/
def fX2_combine (S : St) (x1 : Int32) (x2 : Int32) : Option St :=
  Option.bind (ld S 7 20 x1) fun v_1 =>
  Option.bind (fX2_matchedAhead S v_1 x1) fun v_2 =>
  Option.bind (ld S 8 20 x1) fun v_3 =>
  Option.bind (fX2_matchedAhead S v_3 x1) fun v_4 =>
  Option.bind (ld S 6 20 x1) fun v_5 =>
  if v_5 = 1 then
    Option.bind (sto S 9 20 x1 (v_2 &&& v_4)) fun S_9 =>
    some S_9
  else
    Option.bind (ld S 6 20 x1) fun v_6 =>
    if v_6 = 2 then
      Option.bind (sto S 9 20 x1 (v_2 ||| v_4)) fun S_8 =>
      some S_8
    else
      Option.bind (sto S 9 20 x1 (x2 &&& (v_2 ^^^ (-1)))) fun S_7 =>
      some S_7
set_option maxHeartbeats 4000000 in
set_option maxRecDepth 100000 in
theorem ctX2_combine (l : Launch) {D : va_G} {cI : ClassId} {q : Nat → Nat} (S : St) (x1 : Int32) (x2 : Int32) (sz : Nat) {S1 : St} (hf : fX2_combine S x1 x2 = some S1) : Met l yX2_combine (Cond.code yX2_combine cX2_combine 5 none :: XALL) ({ frames := 1, cells := 0, slots := 0, locals := 22 } : Room) (va_Pc [.ref (q 2), .int x1, .int x2] (gPre D cI ((xw cI q) S) sz)) (gQv D (xw cI q) S (fun (u : St) => u = S1) sz) 0 0 (va_A ((xw cI q) S) sz) := by
  unfold fX2_combine at hf
  refine Met.ofW (cc := cX2_combine) (maxL := 5) (ret := none) (by decide) rfl ?_
  intro p e s m args below meth c s₁ B hml hv
  obtain ⟨rfl, hg⟩ := hv
  have C : Ctx p s m _ meth c cX2_combine 5 RX2 none := Ctx.of B hml rfl
  obtain ⟨E, hw, hsz⟩ := g_start hg
  subst hsz
  have hl := lv_entry ([.ref (q 2), .int x1, .int x2]) (n := 5) (Nat.le_of_ble_eq_true rfl)
  rw [lg_entry_eq]
  generalize (lg_sl ([.ref (q 2), .int x1, .int x2]) ++ List.replicate (5 - (lg_sl ([.ref (q 2), .int x1, .int x2])).length) Slot.unset).toArray = ls at hl ⊢
  have hl : lv_has ls 5 [(0, .ref (q 2)), (1, .int x1), (2, .int x2)] := hl
  refine lv_aload_n C.1 C.2.1 dX2_combine_0 rfl (lv_at hl 0 rfl) ?_
  refine lv_aload_n C.1 C.2.1 dX2_combine_1 rfl (lv_at hl 0 rfl) ?_
  refine g_get C E hw inW2 2 rfl rfl 1 (by decide) kf_X2_15 rfl dX2_combine_2 ?_
  refine lv_iload_n C.1 C.2.1 dX2_combine_5 rfl (lv_at hl 1 rfl) ?_
  obtain ⟨v_1, hv_1, hf⟩ := bnd hf
  refine g_ald C E hw 11 rfl (ld_some hv_1) dX2_combine_6 ?_
  refine lv_iload_n C.1 C.2.1 dX2_combine_7 rfl (lv_at hl 1 rfl) ?_
  obtain ⟨v_2, hv_2, hf⟩ := bnd hf
  refine g_cie (wf := (xw cI q)) (S := S) (rest := []) xw_adr hw (g_runV (rm := ({ frames := 0, cells := 0, slots := 0, locals := 0 } : Room)) (As := [.int v_1, .int x1]) (rest := []) C E hw F_X2_matchedAhead (ctX2_matchedAhead l (cI := cI) (D := D) (q := q) S v_1 x1 _ hv_2) km_X2_28 2 rfl rfl rfl hl.1 rfl (Nat.le_of_ble_eq_true rfl) ⟨(Nat.le_of_ble_eq_true rfl), (Nat.le_of_ble_eq_true rfl)⟩ ⟨(Nat.le_of_ble_eq_true rfl), (Nat.le_of_ble_eq_true rfl)⟩ dX2_combine_8) (fun H locs hw => ?_)
  refine lv_istore_n (lv' := [(3, .int v_2), (0, .ref (q 2)), (1, .int x1), (2, .int x2)]) C.1 C.2.1 dX2_combine_11 rfl hl (by decide) rfl (fun ls hl => ?_)
  refine lv_aload_n C.1 C.2.1 dX2_combine_12 rfl (lv_at hl 1 rfl) ?_
  refine lv_aload_n C.1 C.2.1 dX2_combine_13 rfl (lv_at hl 1 rfl) ?_
  refine g_get C E hw inW2 2 rfl rfl 2 (by decide) kf_X2_18 rfl dX2_combine_14 ?_
  refine lv_iload_n C.1 C.2.1 dX2_combine_17 rfl (lv_at hl 2 rfl) ?_
  obtain ⟨v_3, hv_3, hf⟩ := bnd hf
  refine g_ald C E hw 12 rfl (ld_some hv_3) dX2_combine_18 ?_
  refine lv_iload_n C.1 C.2.1 dX2_combine_19 rfl (lv_at hl 2 rfl) ?_
  obtain ⟨v_4, hv_4, hf⟩ := bnd hf
  refine g_cie (wf := (xw cI q)) (S := S) (rest := []) xw_adr hw (g_runV (rm := ({ frames := 0, cells := 0, slots := 0, locals := 0 } : Room)) (As := [.int v_3, .int x1]) (rest := []) C E hw F_X2_matchedAhead (ctX2_matchedAhead l (cI := cI) (D := D) (q := q) S v_3 x1 _ hv_4) km_X2_28 2 rfl rfl rfl hl.1 rfl (Nat.le_of_ble_eq_true rfl) ⟨(Nat.le_of_ble_eq_true rfl), (Nat.le_of_ble_eq_true rfl)⟩ ⟨(Nat.le_of_ble_eq_true rfl), (Nat.le_of_ble_eq_true rfl)⟩ dX2_combine_20) (fun H locs hw => ?_)
  refine lv_istore (lv' := [(4, .int v_4), (3, .int v_2), (0, .ref (q 2)), (1, .int x1), (2, .int x2)]) C.1 C.2.1 dX2_combine_23 hl (by decide) rfl (fun ls hl => ?_)
  refine lv_aload_n C.1 C.2.1 dX2_combine_25 rfl (lv_at hl 2 rfl) ?_
  refine g_get C E hw inW2 2 rfl rfl 0 (by decide) kf_X2_9 rfl dX2_combine_26 ?_
  refine lv_iload_n C.1 C.2.1 dX2_combine_29 rfl (lv_at hl 3 rfl) ?_
  obtain ⟨v_5, hv_5, hf⟩ := bnd hf
  refine g_ald C E hw 10 rfl (ld_some hv_5) dX2_combine_30 ?_
  refine lv_iconst (v := 1) C.1 C.2.1 dX2_combine_31 (by decide) ?_
  refine lv_icmp_ne (tgt := 48) C.1 C.2.1 dX2_combine_32 (by decide) (fun hc => ?_) (fun hc => ?_)
  · have hf := iff_ hc hf
    refine lv_aload_n C.1 C.2.1 dX2_combine_48 rfl (lv_at hl 2 rfl) ?_
    refine g_get C E hw inW2 2 rfl rfl 0 (by decide) kf_X2_9 rfl dX2_combine_49 ?_
    refine lv_iload_n C.1 C.2.1 dX2_combine_52 rfl (lv_at hl 3 rfl) ?_
    obtain ⟨v_6, hv_6, hf⟩ := bnd hf
    refine g_ald C E hw 10 rfl (ld_some hv_6) dX2_combine_53 ?_
    refine lv_iconst (v := 2) C.1 C.2.1 dX2_combine_54 (by decide) ?_
    refine lv_icmp_ne (tgt := 71) C.1 C.2.1 dX2_combine_55 (by decide) (fun hc => ?_) (fun hc => ?_)
    · have hf := iff_ hc hf
      refine lv_aload_n C.1 C.2.1 dX2_combine_71 rfl (lv_at hl 2 rfl) ?_
      refine g_get C E hw inW2 2 rfl rfl 3 (by decide) kf_X2_21 rfl dX2_combine_72 ?_
      refine lv_iload_n C.1 C.2.1 dX2_combine_75 rfl (lv_at hl 3 rfl) ?_
      refine lv_iload_n C.1 C.2.1 dX2_combine_76 rfl (lv_at hl 4 rfl) ?_
      refine lv_iload_n C.1 C.2.1 dX2_combine_77 rfl (lv_at hl 1 rfl) ?_
      refine lv_iconst (v := (-1)) C.1 C.2.1 dX2_combine_78 (by decide) ?_
      refine lv_ixor C.1 C.2.1 dX2_combine_79 ?_
      refine lv_iand C.1 C.2.1 dX2_combine_80 ?_
      obtain ⟨S_7, hS_7, hf⟩ := bnd hf
      refine g_ast C E hw 13 rfl (sto_some hS_7).1 (ws' := (xw cI q) S_7) (by rw [← (sto_some hS_7).2]; rfl) dX2_combine_81 (fun H locs hw => ?_)
      exact g_vret C hw (Nat.le_of_ble_eq_true rfl) (Nat.le_of_ble_eq_true rfl) (Option.some.inj hf) dX2_combine_82
    · have hf := ift hc hf
      refine lv_aload_n C.1 C.2.1 dX2_combine_58 rfl (lv_at hl 2 rfl) ?_
      refine g_get C E hw inW2 2 rfl rfl 3 (by decide) kf_X2_21 rfl dX2_combine_59 ?_
      refine lv_iload_n C.1 C.2.1 dX2_combine_62 rfl (lv_at hl 3 rfl) ?_
      refine lv_iload_n C.1 C.2.1 dX2_combine_63 rfl (lv_at hl 1 rfl) ?_
      refine lv_iload C.1 C.2.1 dX2_combine_64 (lv_at hl 0 rfl) ?_
      refine lv_ior C.1 C.2.1 dX2_combine_66 ?_
      obtain ⟨S_8, hS_8, hf⟩ := bnd hf
      refine g_ast C E hw 13 rfl (sto_some hS_8).1 (ws' := (xw cI q) S_8) (by rw [← (sto_some hS_8).2]; rfl) dX2_combine_67 (fun H locs hw => ?_)
      refine lv_goto (tgt := 82) C.1 C.2.1 dX2_combine_68 (by decide) ?_
      exact g_vret C hw (Nat.le_of_ble_eq_true rfl) (Nat.le_of_ble_eq_true rfl) (Option.some.inj hf) dX2_combine_82
  · have hf := ift hc hf
    refine lv_aload_n C.1 C.2.1 dX2_combine_35 rfl (lv_at hl 2 rfl) ?_
    refine g_get C E hw inW2 2 rfl rfl 3 (by decide) kf_X2_21 rfl dX2_combine_36 ?_
    refine lv_iload_n C.1 C.2.1 dX2_combine_39 rfl (lv_at hl 3 rfl) ?_
    refine lv_iload_n C.1 C.2.1 dX2_combine_40 rfl (lv_at hl 1 rfl) ?_
    refine lv_iload C.1 C.2.1 dX2_combine_41 (lv_at hl 0 rfl) ?_
    refine lv_iand C.1 C.2.1 dX2_combine_43 ?_
    obtain ⟨S_9, hS_9, hf⟩ := bnd hf
    refine g_ast C E hw 13 rfl (sto_some hS_9).1 (ws' := (xw cI q) S_9) (by rw [← (sto_some hS_9).2]; rfl) dX2_combine_44 (fun H locs hw => ?_)
    refine lv_goto (tgt := 82) C.1 C.2.1 dX2_combine_45 (by decide) ?_
    exact g_vret C hw (Nat.le_of_ble_eq_true rfl) (Nat.le_of_ble_eq_true rfl) (Option.some.inj hf) dX2_combine_82
/-! java/lang/Integer.bitCount -/
def fJ6_bitCount_0f7a4 (x0 : Int32) : Option Int32 :=
  Option.bind (some ((x0 - (((x0.toUInt32 >>> (Int32.toUInt32 1 &&& Int32.toUInt32 31)).toInt32) &&& 1431655765)))) fun x0_1 =>
  Option.bind (some (((x0_1 &&& 858993459) + (((x0_1.toUInt32 >>> (Int32.toUInt32 2 &&& Int32.toUInt32 31)).toInt32) &&& 858993459)))) fun x0_2 =>
  Option.bind (some (((x0_2 + ((x0_2.toUInt32 >>> (Int32.toUInt32 4 &&& Int32.toUInt32 31)).toInt32)) &&& 252645135))) fun x0_3 =>
  Option.bind (some ((x0_3 + ((x0_3.toUInt32 >>> (Int32.toUInt32 8 &&& Int32.toUInt32 31)).toInt32)))) fun x0_4 =>
  Option.bind (some ((x0_4 + ((x0_4.toUInt32 >>> (Int32.toUInt32 16 &&& Int32.toUInt32 31)).toInt32)))) fun x0_5 =>
  some (x0_5 &&& 63)
set_option maxHeartbeats 4000000 in
set_option maxRecDepth 100000 in
theorem ctJ6_bitCount_0f7a4 (l : Launch) (x0 : Int32) {r1 : Int32} (hf : fJ6_bitCount_0f7a4 x0 = some r1) : Met l yJ6_bitCount_0f7a4 (Cond.code yJ6_bitCount_0f7a4 cJ6_bitCount_0f7a4 1 (some .int) :: XALL) ({ frames := 0, cells := 0, slots := 0, locals := 0 } : Room) (va_Pc [.int x0] (fun _ => True)) (zQi r1) 0 0 (fun _ => False) := by
  unfold fJ6_bitCount_0f7a4 at hf
  refine Met.ofW (cc := cJ6_bitCount_0f7a4) (maxL := 1) (ret := (some .int)) (by decide) rfl ?_
  intro p e s m args below meth c s₁ B hml hv
  obtain ⟨rfl, hg⟩ := hv
  have C : Ctx p s m _ meth c cJ6_bitCount_0f7a4 1 RJ6 (some .int) := Ctx.of B hml rfl
  have hw : zS s s.heap [] := va_S.rf
  have hl := lv_entry ([.int x0]) (n := 1) (Nat.le_of_ble_eq_true rfl)
  rw [lg_entry_eq]
  generalize (lg_sl ([.int x0]) ++ List.replicate (1 - (lg_sl ([.int x0])).length) Slot.unset).toArray = ls at hl ⊢
  have hl : lv_has ls 1 [(0, .int x0)] := hl
  refine lv_iload_n C.1 C.2.1 dJ6_bitCount_0f7a4_0 rfl (lv_at hl 0 rfl) ?_
  refine lv_iload_n C.1 C.2.1 dJ6_bitCount_0f7a4_1 rfl (lv_at hl 0 rfl) ?_
  refine lv_iconst (v := 1) C.1 C.2.1 dJ6_bitCount_0f7a4_2 (by decide) ?_
  refine lv_iushr (v := (x0.toUInt32 >>> (Int32.toUInt32 1 &&& Int32.toUInt32 31)).toInt32) C.1 C.2.1 dJ6_bitCount_0f7a4_3 rfl ?_
  refine lv_ldcw C.1 C.2.1 C.2.2.2.1 (C.2.2.2.2.1 _ kk_J6_265) dJ6_bitCount_0f7a4_4 ?_
  refine lv_iand C.1 C.2.1 dJ6_bitCount_0f7a4_7 ?_
  refine lv_isub C.1 C.2.1 dJ6_bitCount_0f7a4_8 ?_
  obtain ⟨x0_1, hx0_1, hf⟩ := bnd hf
  refine topi_b hx0_1 ?_
  refine lv_istore_n (lv' := [(0, .int x0_1)]) C.1 C.2.1 dJ6_bitCount_0f7a4_9 rfl hl (by decide) rfl (fun ls hl => ?_)
  refine lv_iload_n C.1 C.2.1 dJ6_bitCount_0f7a4_10 rfl (lv_at hl 0 rfl) ?_
  refine lv_ldcw C.1 C.2.1 C.2.2.2.1 (C.2.2.2.2.1 _ kk_J6_266) dJ6_bitCount_0f7a4_11 ?_
  refine lv_iand C.1 C.2.1 dJ6_bitCount_0f7a4_14 ?_
  refine lv_iload_n C.1 C.2.1 dJ6_bitCount_0f7a4_15 rfl (lv_at hl 0 rfl) ?_
  refine lv_iconst (v := 2) C.1 C.2.1 dJ6_bitCount_0f7a4_16 (by decide) ?_
  refine lv_iushr (v := (x0_1.toUInt32 >>> (Int32.toUInt32 2 &&& Int32.toUInt32 31)).toInt32) C.1 C.2.1 dJ6_bitCount_0f7a4_17 rfl ?_
  refine lv_ldcw C.1 C.2.1 C.2.2.2.1 (C.2.2.2.2.1 _ kk_J6_266) dJ6_bitCount_0f7a4_18 ?_
  refine lv_iand C.1 C.2.1 dJ6_bitCount_0f7a4_21 ?_
  refine lv_iadd C.1 C.2.1 dJ6_bitCount_0f7a4_22 ?_
  obtain ⟨x0_2, hx0_2, hf⟩ := bnd hf
  refine topi_b hx0_2 ?_
  refine lv_istore_n (lv' := [(0, .int x0_2)]) C.1 C.2.1 dJ6_bitCount_0f7a4_23 rfl hl (by decide) rfl (fun ls hl => ?_)
  refine lv_iload_n C.1 C.2.1 dJ6_bitCount_0f7a4_24 rfl (lv_at hl 0 rfl) ?_
  refine lv_iload_n C.1 C.2.1 dJ6_bitCount_0f7a4_25 rfl (lv_at hl 0 rfl) ?_
  refine lv_iconst (v := 4) C.1 C.2.1 dJ6_bitCount_0f7a4_26 (by decide) ?_
  refine lv_iushr (v := (x0_2.toUInt32 >>> (Int32.toUInt32 4 &&& Int32.toUInt32 31)).toInt32) C.1 C.2.1 dJ6_bitCount_0f7a4_27 rfl ?_
  refine lv_iadd C.1 C.2.1 dJ6_bitCount_0f7a4_28 ?_
  refine lv_ldcw C.1 C.2.1 C.2.2.2.1 (C.2.2.2.2.1 _ kk_J6_267) dJ6_bitCount_0f7a4_29 ?_
  refine lv_iand C.1 C.2.1 dJ6_bitCount_0f7a4_32 ?_
  obtain ⟨x0_3, hx0_3, hf⟩ := bnd hf
  refine topi_b hx0_3 ?_
  refine lv_istore_n (lv' := [(0, .int x0_3)]) C.1 C.2.1 dJ6_bitCount_0f7a4_33 rfl hl (by decide) rfl (fun ls hl => ?_)
  refine lv_iload_n C.1 C.2.1 dJ6_bitCount_0f7a4_34 rfl (lv_at hl 0 rfl) ?_
  refine lv_iload_n C.1 C.2.1 dJ6_bitCount_0f7a4_35 rfl (lv_at hl 0 rfl) ?_
  refine lv_bipush (v := 8) C.1 C.2.1 dJ6_bitCount_0f7a4_36 (by decide) ?_
  refine lv_iushr (v := (x0_3.toUInt32 >>> (Int32.toUInt32 8 &&& Int32.toUInt32 31)).toInt32) C.1 C.2.1 dJ6_bitCount_0f7a4_38 rfl ?_
  refine lv_iadd C.1 C.2.1 dJ6_bitCount_0f7a4_39 ?_
  obtain ⟨x0_4, hx0_4, hf⟩ := bnd hf
  refine topi_b hx0_4 ?_
  refine lv_istore_n (lv' := [(0, .int x0_4)]) C.1 C.2.1 dJ6_bitCount_0f7a4_40 rfl hl (by decide) rfl (fun ls hl => ?_)
  refine lv_iload_n C.1 C.2.1 dJ6_bitCount_0f7a4_41 rfl (lv_at hl 0 rfl) ?_
  refine lv_iload_n C.1 C.2.1 dJ6_bitCount_0f7a4_42 rfl (lv_at hl 0 rfl) ?_
  refine lv_bipush (v := 16) C.1 C.2.1 dJ6_bitCount_0f7a4_43 (by decide) ?_
  refine lv_iushr (v := (x0_4.toUInt32 >>> (Int32.toUInt32 16 &&& Int32.toUInt32 31)).toInt32) C.1 C.2.1 dJ6_bitCount_0f7a4_45 rfl ?_
  refine lv_iadd C.1 C.2.1 dJ6_bitCount_0f7a4_46 ?_
  obtain ⟨x0_5, hx0_5, hf⟩ := bnd hf
  refine topi_b hx0_5 ?_
  refine lv_istore_n (lv' := [(0, .int x0_5)]) C.1 C.2.1 dJ6_bitCount_0f7a4_47 rfl hl (by decide) rfl (fun ls hl => ?_)
  refine lv_iload_n C.1 C.2.1 dJ6_bitCount_0f7a4_48 rfl (lv_at hl 0 rfl) ?_
  refine lv_bipush (v := 63) C.1 C.2.1 dJ6_bitCount_0f7a4_49 (by decide) ?_
  refine lv_iand C.1 C.2.1 dJ6_bitCount_0f7a4_51 ?_
  exact z_iret C hw (Nat.le_of_ble_eq_true rfl) (Nat.le_of_ble_eq_true rfl) (Option.some.inj hf) dJ6_bitCount_0f7a4_52
/-! DreamLedger.TagTree.countAbove -/
def fX1_countAbove (S : St) (x1 : Int32) : Option Int32 :=
  Option.bind (ld S 5 16 x1) fun v_1 =>
  Option.bind (fJ6_bitCount_0f7a4 v_1) fun v_2 =>
  some (v_2 - 1)
set_option maxHeartbeats 4000000 in
set_option maxRecDepth 100000 in
theorem ctX1_countAbove (l : Launch) {D : va_G} {cI : ClassId} {q : Nat → Nat} (S : St) (x1 : Int32) (sz : Nat) {r1 : Int32} (hf : fX1_countAbove S x1 = some r1) : Met l yX1_countAbove (Cond.code yX1_countAbove cX1_countAbove 2 (some .int) :: XALL) ({ frames := 1, cells := 0, slots := 0, locals := 20 } : Room) (va_Pc [.ref (q 1), .int x1] (gPre D cI ((xw cI q) S) sz)) (gQi D (xw cI q) S (fun (r : Int32) (u : St) => r = r1 ∧ u = S) sz) 0 0 (va_A ((xw cI q) S) sz) := by
  unfold fX1_countAbove at hf
  refine Met.ofW (cc := cX1_countAbove) (maxL := 2) (ret := (some .int)) (by decide) rfl ?_
  intro p e s m args below meth c s₁ B hml hv
  obtain ⟨rfl, hg⟩ := hv
  have C : Ctx p s m _ meth c cX1_countAbove 2 RX1 (some .int) := Ctx.of B hml rfl
  obtain ⟨E, hw, hsz⟩ := g_start hg
  subst hsz
  have hl := lv_entry ([.ref (q 1), .int x1]) (n := 2) (Nat.le_of_ble_eq_true rfl)
  rw [lg_entry_eq]
  generalize (lg_sl ([.ref (q 1), .int x1]) ++ List.replicate (2 - (lg_sl ([.ref (q 1), .int x1])).length) Slot.unset).toArray = ls at hl ⊢
  have hl : lv_has ls 2 [(0, .ref (q 1)), (1, .int x1)] := hl
  refine lv_aload_n C.1 C.2.1 dX1_countAbove_0 rfl (lv_at hl 0 rfl) ?_
  refine g_get C E hw inW1 1 rfl rfl 1 (by decide) kf_X1_15 rfl dX1_countAbove_1 ?_
  refine lv_iload_n C.1 C.2.1 dX1_countAbove_4 rfl (lv_at hl 1 rfl) ?_
  obtain ⟨v_1, hv_1, hf⟩ := bnd hf
  refine g_ald C E hw 9 rfl (ld_some hv_1) dX1_countAbove_5 ?_
  obtain ⟨v_2, hv_2, hf⟩ := bnd hf
  refine g_ci0e (rest := []) hw (g_run0 (rm := ({ frames := 0, cells := 0, slots := 0, locals := 0 } : Room)) (As := [.int v_1]) (rest := []) C F_J6_bitCount_0f7a4 (ctJ6_bitCount_0f7a4 l v_1 hv_2) km_X1_37 rfl hl.1 rfl (Nat.le_of_ble_eq_true rfl) ⟨(Nat.le_of_ble_eq_true rfl), (Nat.le_of_ble_eq_true rfl)⟩ ⟨(Nat.le_of_ble_eq_true rfl), (Nat.le_of_ble_eq_true rfl)⟩ dX1_countAbove_6) (fun H locs hw => ?_)
  refine lv_iconst (v := 1) C.1 C.2.1 dX1_countAbove_9 (by decide) ?_
  refine lv_isub C.1 C.2.1 dX1_countAbove_10 ?_
  exact g_iret C hw (Nat.le_of_ble_eq_true rfl) (Nat.le_of_ble_eq_true rfl) ⟨Option.some.inj hf, rfl⟩ dX1_countAbove_11
/-! DreamLedger.TermList.add -/
def fX2_add (S : St) (x1 : Int32) (x2 : Int32) (x3 : Int32) : Option (Int32 × St) :=
  Option.bind (some ((S 15 0))) fun x4_1 =>
  Option.bind (some (up S 15 0 ((S 15 0) + 1))) fun S_2 =>
  Option.bind (sto S_2 6 20 x4_1 x1) fun S_3 =>
  Option.bind (sto S_3 7 20 x4_1 x2) fun S_4 =>
  Option.bind (sto S_4 8 20 x4_1 x3) fun S_5 =>
  some (x4_1, S_5)
set_option maxHeartbeats 4000000 in
set_option maxRecDepth 100000 in
theorem ctX2_add (l : Launch) {D : va_G} {cI : ClassId} {q : Nat → Nat} (S : St) (x1 : Int32) (x2 : Int32) (x3 : Int32) (sz : Nat) {r1 : Int32} {S1 : St} (hf : fX2_add S x1 x2 x3 = some (r1, S1)) : Met l yX2_add (Cond.code yX2_add cX2_add 5 (some .int) :: XALL) ({ frames := 0, cells := 0, slots := 0, locals := 0 } : Room) (va_Pc [.ref (q 2), .int x1, .int x2, .int x3] (gPre D cI ((xw cI q) S) sz)) (gQi D (xw cI q) S (fun (r : Int32) (u : St) => r = r1 ∧ u = S1) sz) 0 0 (va_A ((xw cI q) S) sz) := by
  unfold fX2_add at hf
  refine Met.ofW (cc := cX2_add) (maxL := 5) (ret := (some .int)) (by decide) rfl ?_
  intro p e s m args below meth c s₁ B hml hv
  obtain ⟨rfl, hg⟩ := hv
  have C : Ctx p s m _ meth c cX2_add 5 RX2 (some .int) := Ctx.of B hml rfl
  obtain ⟨E, hw, hsz⟩ := g_start hg
  subst hsz
  have hl := lv_entry ([.ref (q 2), .int x1, .int x2, .int x3]) (n := 5) (Nat.le_of_ble_eq_true rfl)
  rw [lg_entry_eq]
  generalize (lg_sl ([.ref (q 2), .int x1, .int x2, .int x3]) ++ List.replicate (5 - (lg_sl ([.ref (q 2), .int x1, .int x2, .int x3])).length) Slot.unset).toArray = ls at hl ⊢
  have hl : lv_has ls 5 [(0, .ref (q 2)), (1, .int x1), (2, .int x2), (3, .int x3)] := hl
  refine lv_aload_n C.1 C.2.1 dX2_add_0 rfl (lv_at hl 0 rfl) ?_
  refine g_get C E hw inW2 2 rfl rfl 4 (by decide) kf_X2_24 rfl dX2_add_1 ?_
  obtain ⟨x4_1, hx4_1, hf⟩ := bnd hf
  refine topi_b hx4_1 ?_
  refine lv_istore (lv' := [(4, .int x4_1), (0, .ref (q 2)), (1, .int x1), (2, .int x2), (3, .int x3)]) C.1 C.2.1 dX2_add_4 hl (by decide) rfl (fun ls hl => ?_)
  refine lv_aload_n C.1 C.2.1 dX2_add_6 rfl (lv_at hl 1 rfl) ?_
  refine lv_dup C.1 C.2.1 dX2_add_7 rfl ?_
  refine g_get C E hw inW2 2 rfl rfl 4 (by decide) kf_X2_24 rfl dX2_add_8 ?_
  refine lv_iconst (v := 1) C.1 C.2.1 dX2_add_11 (by decide) ?_
  refine lv_iadd C.1 C.2.1 dX2_add_12 ?_
  obtain ⟨S_2, hS_2, hf⟩ := bnd hf
  refine g_put C E hw inW2 tyX2 tyX2_ok nmX2 2 rfl rfl 4 (by decide) kf_X2_24 rfl (by decide +kernel) (Nat.le_of_ble_eq_true rfl) (ws' := (xw cI q) S_2) (by rw [← Option.some.inj hS_2]; rfl) dX2_add_13 (fun H locs hw => ?_)
  refine lv_aload_n C.1 C.2.1 dX2_add_16 rfl (lv_at hl 1 rfl) ?_
  refine g_get C E hw inW2 2 rfl rfl 0 (by decide) kf_X2_9 rfl dX2_add_17 ?_
  refine lv_iload C.1 C.2.1 dX2_add_20 (lv_at hl 0 rfl) ?_
  refine lv_iload_n C.1 C.2.1 dX2_add_22 rfl (lv_at hl 2 rfl) ?_
  obtain ⟨S_3, hS_3, hf⟩ := bnd hf
  refine g_ast C E hw 10 rfl (sto_some hS_3).1 (ws' := (xw cI q) S_3) (by rw [← (sto_some hS_3).2]; rfl) dX2_add_23 (fun H locs hw => ?_)
  refine lv_aload_n C.1 C.2.1 dX2_add_24 rfl (lv_at hl 1 rfl) ?_
  refine g_get C E hw inW2 2 rfl rfl 1 (by decide) kf_X2_15 rfl dX2_add_25 ?_
  refine lv_iload C.1 C.2.1 dX2_add_28 (lv_at hl 0 rfl) ?_
  refine lv_iload_n C.1 C.2.1 dX2_add_30 rfl (lv_at hl 3 rfl) ?_
  obtain ⟨S_4, hS_4, hf⟩ := bnd hf
  refine g_ast C E hw 11 rfl (sto_some hS_4).1 (ws' := (xw cI q) S_4) (by rw [← (sto_some hS_4).2]; rfl) dX2_add_31 (fun H locs hw => ?_)
  refine lv_aload_n C.1 C.2.1 dX2_add_32 rfl (lv_at hl 1 rfl) ?_
  refine g_get C E hw inW2 2 rfl rfl 2 (by decide) kf_X2_18 rfl dX2_add_33 ?_
  refine lv_iload C.1 C.2.1 dX2_add_36 (lv_at hl 0 rfl) ?_
  refine lv_iload_n C.1 C.2.1 dX2_add_38 rfl (lv_at hl 4 rfl) ?_
  obtain ⟨S_5, hS_5, hf⟩ := bnd hf
  refine g_ast C E hw 12 rfl (sto_some hS_5).1 (ws' := (xw cI q) S_5) (by rw [← (sto_some hS_5).2]; rfl) dX2_add_39 (fun H locs hw => ?_)
  refine lv_iload C.1 C.2.1 dX2_add_40 (lv_at hl 0 rfl) ?_
  exact g_iret C hw (Nat.le_of_ble_eq_true rfl) (Nat.le_of_ble_eq_true rfl) ⟨congrArg Prod.fst (Option.some.inj hf), congrArg Prod.snd (Option.some.inj hf)⟩ dX2_add_42
/-! DreamLedger.TagTree.countBelow -/
def fX1_countBelow_4 (S : St) (x1 : Int32) : Nat → Int32 → Int32 → Option Int32
  | 0, _, _ => none
  | n + 1, x2, x3 =>
    if (S 14 0) ≤ x3 then
      some x2
    else
      Option.bind (fX1_standsBelow S x3 x1) fun v_1 =>
      if v_1 = 0 then
        Option.bind (some (x3 + 1)) fun x3_2 =>
        fX1_countBelow_4 S x1 n x2 x3_2
      else
        Option.bind (some (x2 + 1)) fun x2_3 =>
        Option.bind (some (x3 + 1)) fun x3_4 =>
        fX1_countBelow_4 S x1 n x2_3 x3_4
set_option maxHeartbeats 4000000 in
set_option maxRecDepth 100000 in
theorem wX1_countBelow_4 {p : Program} {l : Launch} {e : Env} {s : State} {m : MethodId} {args : Array Value} {below : List Frame} {meth : Method} {c : Code} {D : va_G} {cI : ClassId} {q : Nat → Nat} (C : Ctx p s m args meth c cX1_countBelow 4 RX1 (some .int)) (E : gE D cI s) {r1 : Int32} (S : St) (x1 : Int32) : ∀ (n : Nat) (x2 : Int32) (x3 : Int32), fX1_countBelow_4 S x1 n x2 x3 = some r1 → ∀ (H : Heap) (locs : List Loc) (ls : Array Slot), gW D ((xw cI q) S) ((xw cI q) S) s H locs → lv_has ls 4 [(0, .ref (q 1)), (1, .int x1), (2, .int x2), (3, .int x3)] → W p l e ({ frames := 2, cells := 0, slots := 0, locals := 43 } : Room) s m args below meth c H locs 0 0 (MQ below (gQi D (xw cI q) S (fun (r : Int32) (u : St) => r = r1 ∧ u = S) s.heap.size) args s 0 0 (va_A ((xw cI q) S) s.heap.size)) (F0 m 4 ls []) := by
  intro n
  induction n with
  | zero => intro x2 x3 hf; rw [fX1_countBelow_4] at hf; cases hf
  | succ n ih =>
    intro x2 x3 hf H locs ls hw hl
    rw [fX1_countBelow_4] at hf
    refine lv_iload_n C.1 C.2.1 dX1_countBelow_4 rfl (lv_at hl 3 rfl) ?_
    refine lv_aload_n C.1 C.2.1 dX1_countBelow_5 rfl (lv_at hl 0 rfl) ?_
    refine g_get C E hw inW1 1 rfl rfl 2 (by decide) kf_X1_18 rfl dX1_countBelow_6 ?_
    refine lv_icmp_ge (tgt := 30) C.1 C.2.1 dX1_countBelow_9 (by decide) (fun hc => ?_) (fun hc => ?_)
    · have hf := ift hc hf
      refine lv_iload_n C.1 C.2.1 dX1_countBelow_30 rfl (lv_at hl 2 rfl) ?_
      exact g_iret C hw (Nat.le_of_ble_eq_true rfl) (Nat.le_of_ble_eq_true rfl) ⟨Option.some.inj hf, rfl⟩ dX1_countBelow_31
    · have hf := iff_ hc hf
      refine lv_aload_n C.1 C.2.1 dX1_countBelow_12 rfl (lv_at hl 0 rfl) ?_
      refine lv_iload_n C.1 C.2.1 dX1_countBelow_13 rfl (lv_at hl 3 rfl) ?_
      refine lv_iload_n C.1 C.2.1 dX1_countBelow_14 rfl (lv_at hl 1 rfl) ?_
      obtain ⟨v_1, hv_1, hf⟩ := bnd hf
      refine g_cie (wf := (xw cI q)) (S := S) (rest := []) xw_adr hw (g_runV (rm := ({ frames := 1, cells := 0, slots := 0, locals := 21 } : Room)) (As := [.int x3, .int x1]) (rest := []) C E hw F_X1_standsBelow (ctX1_standsBelow l (cI := cI) (D := D) (q := q) S x3 x1 _ hv_1) km_X1_34 1 rfl rfl rfl hl.1 rfl (Nat.le_of_ble_eq_true rfl) ⟨(Nat.le_of_ble_eq_true rfl), (Nat.le_of_ble_eq_true rfl)⟩ ⟨(Nat.le_of_ble_eq_true rfl), (Nat.le_of_ble_eq_true rfl)⟩ dX1_countBelow_15) (fun H locs hw => ?_)
      refine lv_if_eq (tgt := 24) C.1 C.2.1 dX1_countBelow_18 (by decide) (fun hc => ?_) (fun hc => ?_)
      · have hf := ift hc hf
        obtain ⟨x3_2, hx3_2, hf⟩ := bnd hf
        refine lv_iinc (v := x3_2) (lv' := [(3, .int x3_2), (0, .ref (q 1)), (1, .int x1), (2, .int x2)]) C.1 C.2.1 dX1_countBelow_24 hl (k := 3) rfl (inc1 hx3_2) (by decide) rfl (fun ls hl => ?_)
        refine lv_goto (tgt := 4) C.1 C.2.1 dX1_countBelow_27 (by decide) ?_
        exact ih x2 x3_2 hf _ _ _ hw (lv_sub hl [1, 2, 3, 0] rfl)
      · have hf := iff_ hc hf
        obtain ⟨x2_3, hx2_3, hf⟩ := bnd hf
        refine lv_iinc (v := x2_3) (lv' := [(2, .int x2_3), (0, .ref (q 1)), (1, .int x1), (3, .int x3)]) C.1 C.2.1 dX1_countBelow_21 hl (k := 2) rfl (inc1 hx2_3) (by decide) rfl (fun ls hl => ?_)
        obtain ⟨x3_4, hx3_4, hf⟩ := bnd hf
        refine lv_iinc (v := x3_4) (lv' := [(3, .int x3_4), (2, .int x2_3), (0, .ref (q 1)), (1, .int x1)]) C.1 C.2.1 dX1_countBelow_24 hl (k := 3) rfl (inc1 hx3_4) (by decide) rfl (fun ls hl => ?_)
        refine lv_goto (tgt := 4) C.1 C.2.1 dX1_countBelow_27 (by decide) ?_
        exact ih x2_3 x3_4 hf _ _ _ hw (lv_sub hl [2, 3, 1, 0] rfl)
def fX1_countBelow (S : St) (x1 : Int32) : Option Int32 :=
  fX1_countBelow_4 S x1 100 0 0
set_option maxHeartbeats 4000000 in
set_option maxRecDepth 100000 in
theorem ctX1_countBelow (l : Launch) {D : va_G} {cI : ClassId} {q : Nat → Nat} (S : St) (x1 : Int32) (sz : Nat) {r1 : Int32} (hf : fX1_countBelow S x1 = some r1) : Met l yX1_countBelow (Cond.code yX1_countBelow cX1_countBelow 4 (some .int) :: XALL) ({ frames := 2, cells := 0, slots := 0, locals := 43 } : Room) (va_Pc [.ref (q 1), .int x1] (gPre D cI ((xw cI q) S) sz)) (gQi D (xw cI q) S (fun (r : Int32) (u : St) => r = r1 ∧ u = S) sz) 0 0 (va_A ((xw cI q) S) sz) := by
  unfold fX1_countBelow at hf
  refine Met.ofW (cc := cX1_countBelow) (maxL := 4) (ret := (some .int)) (by decide) rfl ?_
  intro p e s m args below meth c s₁ B hml hv
  obtain ⟨rfl, hg⟩ := hv
  have C : Ctx p s m _ meth c cX1_countBelow 4 RX1 (some .int) := Ctx.of B hml rfl
  obtain ⟨E, hw, hsz⟩ := g_start hg
  subst hsz
  have hl := lv_entry ([.ref (q 1), .int x1]) (n := 4) (Nat.le_of_ble_eq_true rfl)
  rw [lg_entry_eq]
  generalize (lg_sl ([.ref (q 1), .int x1]) ++ List.replicate (4 - (lg_sl ([.ref (q 1), .int x1])).length) Slot.unset).toArray = ls at hl ⊢
  have hl : lv_has ls 4 [(0, .ref (q 1)), (1, .int x1)] := hl
  refine lv_iconst (v := 0) C.1 C.2.1 dX1_countBelow_0 (by decide) ?_
  refine lv_istore_n (lv' := [(2, .int 0), (0, .ref (q 1)), (1, .int x1)]) C.1 C.2.1 dX1_countBelow_1 rfl hl (by decide) rfl (fun ls hl => ?_)
  refine lv_iconst (v := 0) C.1 C.2.1 dX1_countBelow_2 (by decide) ?_
  refine lv_istore_n (lv' := [(3, .int 0), (2, .int 0), (0, .ref (q 1)), (1, .int x1)]) C.1 C.2.1 dX1_countBelow_3 rfl hl (by decide) rfl (fun ls hl => ?_)
  exact wX1_countBelow_4 C E S x1 100 0 0 hf _ _ _ hw (lv_sub hl [2, 3, 1, 0] rfl)
/-! DreamLedger.TagTree.lowestOf -/
def fX1_lowestOf_7 (S : St) (x1 : Int32) : Nat → Int32 → Int32 → Int32 → Option Int32
  | 0, _, _, _ => none
  | n + 1, x2, x3, x4 =>
    if (S 14 0) ≤ x4 then
      some x2
    else
      Option.bind (fX3_isIn x4 x1) fun v_1 =>
      if v_1 = 0 then
        Option.bind (some (x4 + 1)) fun x4_2 =>
        fX1_lowestOf_7 S x1 n x2 x3 x4_2
      else
        Option.bind (fX1_countAbove S x4) fun v_3 =>
        if v_3 ≤ x3 then
          Option.bind (some (x4 + 1)) fun x4_4 =>
          fX1_lowestOf_7 S x1 n x2 x3 x4_4
        else
          Option.bind (fX1_countAbove S x4) fun v_5 =>
          Option.bind (some (x4 + 1)) fun x4_6 =>
          fX1_lowestOf_7 S x1 n x4 v_5 x4_6
set_option maxHeartbeats 4000000 in
set_option maxRecDepth 100000 in
theorem wX1_lowestOf_7 {p : Program} {l : Launch} {e : Env} {s : State} {m : MethodId} {args : Array Value} {below : List Frame} {meth : Method} {c : Code} {D : va_G} {cI : ClassId} {q : Nat → Nat} (C : Ctx p s m args meth c cX1_lowestOf 5 RX1 (some .int)) (E : gE D cI s) {r1 : Int32} (S : St) (x1 : Int32) : ∀ (n : Nat) (x2 : Int32) (x3 : Int32) (x4 : Int32), fX1_lowestOf_7 S x1 n x2 x3 x4 = some r1 → ∀ (H : Heap) (locs : List Loc) (ls : Array Slot), gW D ((xw cI q) S) ((xw cI q) S) s H locs → lv_has ls 5 [(0, .ref (q 1)), (1, .int x1), (2, .int x2), (3, .int x3), (4, .int x4)] → W p l e ({ frames := 2, cells := 0, slots := 0, locals := 41 } : Room) s m args below meth c H locs 0 0 (MQ below (gQi D (xw cI q) S (fun (r : Int32) (u : St) => r = r1 ∧ u = S) s.heap.size) args s 0 0 (va_A ((xw cI q) S) s.heap.size)) (F0 m 7 ls []) := by
  intro n
  induction n with
  | zero => intro x2 x3 x4 hf; rw [fX1_lowestOf_7] at hf; cases hf
  | succ n ih =>
    intro x2 x3 x4 hf H locs ls hw hl
    rw [fX1_lowestOf_7] at hf
    refine lv_iload C.1 C.2.1 dX1_lowestOf_7 (lv_at hl 4 rfl) ?_
    refine lv_aload_n C.1 C.2.1 dX1_lowestOf_9 rfl (lv_at hl 0 rfl) ?_
    refine g_get C E hw inW1 1 rfl rfl 2 (by decide) kf_X1_18 rfl dX1_lowestOf_10 ?_
    refine lv_icmp_ge (tgt := 51) C.1 C.2.1 dX1_lowestOf_13 (by decide) (fun hc => ?_) (fun hc => ?_)
    · have hf := ift hc hf
      refine lv_iload_n C.1 C.2.1 dX1_lowestOf_51 rfl (lv_at hl 2 rfl) ?_
      exact g_iret C hw (Nat.le_of_ble_eq_true rfl) (Nat.le_of_ble_eq_true rfl) ⟨Option.some.inj hf, rfl⟩ dX1_lowestOf_52
    · have hf := iff_ hc hf
      refine lv_iload C.1 C.2.1 dX1_lowestOf_16 (lv_at hl 4 rfl) ?_
      refine lv_iload_n C.1 C.2.1 dX1_lowestOf_18 rfl (lv_at hl 1 rfl) ?_
      obtain ⟨v_1, hv_1, hf⟩ := bnd hf
      refine g_ci0e (rest := []) hw (g_run0N (rm := ({ frames := 0, cells := 0, slots := 0, locals := 0 } : Room)) (As := [.int x4, .int x1]) (rest := []) C E F_X3_isIn (ctX3_isIn l x4 x1 hv_1) kmN_X1_30 rfl hl.1 rfl (Nat.le_of_ble_eq_true rfl) ⟨(Nat.le_of_ble_eq_true rfl), (Nat.le_of_ble_eq_true rfl)⟩ ⟨(Nat.le_of_ble_eq_true rfl), (Nat.le_of_ble_eq_true rfl)⟩ dX1_lowestOf_19) (fun H locs hw => ?_)
      refine lv_if_eq (tgt := 45) C.1 C.2.1 dX1_lowestOf_22 (by decide) (fun hc => ?_) (fun hc => ?_)
      · have hf := ift hc hf
        obtain ⟨x4_2, hx4_2, hf⟩ := bnd hf
        refine lv_iinc (v := x4_2) (lv' := [(4, .int x4_2), (0, .ref (q 1)), (1, .int x1), (2, .int x2), (3, .int x3)]) C.1 C.2.1 dX1_lowestOf_45 hl (k := 4) rfl (inc1 hx4_2) (by decide) rfl (fun ls hl => ?_)
        refine lv_goto (tgt := 7) C.1 C.2.1 dX1_lowestOf_48 (by decide) ?_
        exact ih x2 x3 x4_2 hf _ _ _ hw (lv_sub hl [1, 2, 3, 4, 0] rfl)
      · have hf := iff_ hc hf
        refine lv_aload_n C.1 C.2.1 dX1_lowestOf_25 rfl (lv_at hl 0 rfl) ?_
        refine lv_iload C.1 C.2.1 dX1_lowestOf_26 (lv_at hl 4 rfl) ?_
        obtain ⟨v_3, hv_3, hf⟩ := bnd hf
        refine g_cie (wf := (xw cI q)) (S := S) (rest := []) xw_adr hw (g_runV (rm := ({ frames := 1, cells := 0, slots := 0, locals := 20 } : Room)) (As := [.int x4]) (rest := []) C E hw F_X1_countAbove (ctX1_countAbove l (cI := cI) (D := D) (q := q) S x4 _ hv_3) km_X1_42 1 rfl rfl rfl hl.1 rfl (Nat.le_of_ble_eq_true rfl) ⟨(Nat.le_of_ble_eq_true rfl), (Nat.le_of_ble_eq_true rfl)⟩ ⟨(Nat.le_of_ble_eq_true rfl), (Nat.le_of_ble_eq_true rfl)⟩ dX1_lowestOf_28) (fun H locs hw => ?_)
        refine lv_iload_n C.1 C.2.1 dX1_lowestOf_31 rfl (lv_at hl 3 rfl) ?_
        refine lv_icmp_le (tgt := 45) C.1 C.2.1 dX1_lowestOf_32 (by decide) (fun hc => ?_) (fun hc => ?_)
        · have hf := ift hc hf
          obtain ⟨x4_4, hx4_4, hf⟩ := bnd hf
          refine lv_iinc (v := x4_4) (lv' := [(4, .int x4_4), (0, .ref (q 1)), (1, .int x1), (2, .int x2), (3, .int x3)]) C.1 C.2.1 dX1_lowestOf_45 hl (k := 4) rfl (inc1 hx4_4) (by decide) rfl (fun ls hl => ?_)
          refine lv_goto (tgt := 7) C.1 C.2.1 dX1_lowestOf_48 (by decide) ?_
          exact ih x2 x3 x4_4 hf _ _ _ hw (lv_sub hl [1, 2, 3, 4, 0] rfl)
        · have hf := iff_ hc hf
          refine lv_aload_n C.1 C.2.1 dX1_lowestOf_35 rfl (lv_at hl 0 rfl) ?_
          refine lv_iload C.1 C.2.1 dX1_lowestOf_36 (lv_at hl 4 rfl) ?_
          obtain ⟨v_5, hv_5, hf⟩ := bnd hf
          refine g_cie (wf := (xw cI q)) (S := S) (rest := []) xw_adr hw (g_runV (rm := ({ frames := 1, cells := 0, slots := 0, locals := 20 } : Room)) (As := [.int x4]) (rest := []) C E hw F_X1_countAbove (ctX1_countAbove l (cI := cI) (D := D) (q := q) S x4 _ hv_5) km_X1_42 1 rfl rfl rfl hl.1 rfl (Nat.le_of_ble_eq_true rfl) ⟨(Nat.le_of_ble_eq_true rfl), (Nat.le_of_ble_eq_true rfl)⟩ ⟨(Nat.le_of_ble_eq_true rfl), (Nat.le_of_ble_eq_true rfl)⟩ dX1_lowestOf_38) (fun H locs hw => ?_)
          refine lv_istore_n (lv' := [(3, .int v_5), (0, .ref (q 1)), (1, .int x1), (2, .int x2), (4, .int x4)]) C.1 C.2.1 dX1_lowestOf_41 rfl hl (by decide) rfl (fun ls hl => ?_)
          refine lv_iload C.1 C.2.1 dX1_lowestOf_42 (lv_at hl 4 rfl) ?_
          refine lv_istore_n (lv' := [(2, .int x4), (3, .int v_5), (0, .ref (q 1)), (1, .int x1), (4, .int x4)]) C.1 C.2.1 dX1_lowestOf_44 rfl hl (by decide) rfl (fun ls hl => ?_)
          obtain ⟨x4_6, hx4_6, hf⟩ := bnd hf
          refine lv_iinc (v := x4_6) (lv' := [(4, .int x4_6), (2, .int x4), (3, .int v_5), (0, .ref (q 1)), (1, .int x1)]) C.1 C.2.1 dX1_lowestOf_45 hl (k := 4) rfl (inc1 hx4_6) (by decide) rfl (fun ls hl => ?_)
          refine lv_goto (tgt := 7) C.1 C.2.1 dX1_lowestOf_48 (by decide) ?_
          exact ih x4 v_5 x4_6 hf _ _ _ hw (lv_sub hl [3, 4, 1, 2, 0] rfl)
def fX1_lowestOf (S : St) (x1 : Int32) : Option Int32 :=
  fX1_lowestOf_7 S x1 100 (-1) (-1) 0
set_option maxHeartbeats 4000000 in
set_option maxRecDepth 100000 in
theorem ctX1_lowestOf (l : Launch) {D : va_G} {cI : ClassId} {q : Nat → Nat} (S : St) (x1 : Int32) (sz : Nat) {r1 : Int32} (hf : fX1_lowestOf S x1 = some r1) : Met l yX1_lowestOf (Cond.code yX1_lowestOf cX1_lowestOf 5 (some .int) :: XALL) ({ frames := 2, cells := 0, slots := 0, locals := 41 } : Room) (va_Pc [.ref (q 1), .int x1] (gPre D cI ((xw cI q) S) sz)) (gQi D (xw cI q) S (fun (r : Int32) (u : St) => r = r1 ∧ u = S) sz) 0 0 (va_A ((xw cI q) S) sz) := by
  unfold fX1_lowestOf at hf
  refine Met.ofW (cc := cX1_lowestOf) (maxL := 5) (ret := (some .int)) (by decide) rfl ?_
  intro p e s m args below meth c s₁ B hml hv
  obtain ⟨rfl, hg⟩ := hv
  have C : Ctx p s m _ meth c cX1_lowestOf 5 RX1 (some .int) := Ctx.of B hml rfl
  obtain ⟨E, hw, hsz⟩ := g_start hg
  subst hsz
  have hl := lv_entry ([.ref (q 1), .int x1]) (n := 5) (Nat.le_of_ble_eq_true rfl)
  rw [lg_entry_eq]
  generalize (lg_sl ([.ref (q 1), .int x1]) ++ List.replicate (5 - (lg_sl ([.ref (q 1), .int x1])).length) Slot.unset).toArray = ls at hl ⊢
  have hl : lv_has ls 5 [(0, .ref (q 1)), (1, .int x1)] := hl
  refine lv_iconst (v := (-1)) C.1 C.2.1 dX1_lowestOf_0 (by decide) ?_
  refine lv_istore_n (lv' := [(2, .int (-1)), (0, .ref (q 1)), (1, .int x1)]) C.1 C.2.1 dX1_lowestOf_1 rfl hl (by decide) rfl (fun ls hl => ?_)
  refine lv_iconst (v := (-1)) C.1 C.2.1 dX1_lowestOf_2 (by decide) ?_
  refine lv_istore_n (lv' := [(3, .int (-1)), (2, .int (-1)), (0, .ref (q 1)), (1, .int x1)]) C.1 C.2.1 dX1_lowestOf_3 rfl hl (by decide) rfl (fun ls hl => ?_)
  refine lv_iconst (v := 0) C.1 C.2.1 dX1_lowestOf_4 (by decide) ?_
  refine lv_istore (lv' := [(4, .int 0), (3, .int (-1)), (2, .int (-1)), (0, .ref (q 1)), (1, .int x1)]) C.1 C.2.1 dX1_lowestOf_5 hl (by decide) rfl (fun ls hl => ?_)
  exact wX1_lowestOf_7 C E S x1 100 (-1) (-1) 0 hf _ _ _ hw (lv_sub hl [3, 4, 2, 1, 0] rfl)
/-! DreamLedger.CoverSearch.coverFrom -/
def fX0_coverFrom_81 (rec : St → Int32 → Int32 → Int32 → Option Int32) (S : St) (x2 : Int32) (x3 : Int32) (x4 : Int32) : Option Int32 :=
  Option.bind (rec S (x2 + 1) x3 x4) fun v_6 =>
  some v_6
set_option maxHeartbeats 4000000 in
set_option maxRecDepth 100000 in
theorem wX0_coverFrom_81 {p : Program} {l : Launch} {e : Env} {s : State} {m : MethodId} {args : Array Value} {below : List Frame} {meth : Method} {c : Code} {D : va_G} {cI : ClassId} {q : Nat → Nat} (C : Ctx p s m args meth c cX0_coverFrom 7 RX0 (some .int)) (E : gE D cI s) {r1 : Int32} {n0 : Nat} (rec : St → Int32 → Int32 → Int32 → Option Int32) (hrec : ∀ (S : St) (x2 : Int32) (x3 : Int32) (x4 : Int32) (sz : Nat) {r1 : Int32}, rec S x2 x3 x4 = some r1 → Met l yX0_coverFrom (Cond.code yX0_coverFrom cX0_coverFrom 7 (some .int) :: XALL) ({ frames := n0 + 0, cells := 0, slots := 0, locals := n0 * 40 + 0 } : Room) (va_Pc [.ref (q 14), .ref (q 15), .int x2, .int x3, .int x4] (gPre D cI ((xw cI q) S) sz)) (gQi D (xw cI q) S (fun (r : Int32) (u : St) => r = r1 ∧ u = S) sz) 0 0 (va_A ((xw cI q) S) sz)) (S : St) : ∀ (x2 : Int32) (x3 : Int32) (x4 : Int32), fX0_coverFrom_81 rec S x2 x3 x4 = some r1 → ∀ (H : Heap) (locs : List Loc) (ls : Array Slot), gW D ((xw cI q) S) ((xw cI q) S) s H locs → lv_has ls 7 [(0, .ref (q 14)), (1, .ref (q 15)), (2, .int x2), (3, .int x3), (4, .int x4)] → W p l e ({ frames := (n0 + 1) + 0, cells := 0, slots := 0, locals := (n0 + 1) * 40 + 0 } : Room) s m args below meth c H locs 0 0 (MQ below (gQi D (xw cI q) S (fun (r : Int32) (u : St) => r = r1 ∧ u = S) s.heap.size) args s 0 0 (va_A ((xw cI q) S) s.heap.size)) (F0 m 81 ls []) := by
  intro x2 x3 x4 hf H locs ls hw hl
  unfold fX0_coverFrom_81 at hf
  refine lv_aload_n C.1 C.2.1 dX0_coverFrom_81 rfl (lv_at hl 0 rfl) ?_
  refine lv_aload_n C.1 C.2.1 dX0_coverFrom_82 rfl (lv_at hl 1 rfl) ?_
  refine lv_iload_n C.1 C.2.1 dX0_coverFrom_83 rfl (lv_at hl 2 rfl) ?_
  refine lv_iconst (v := 1) C.1 C.2.1 dX0_coverFrom_84 (by decide) ?_
  refine lv_iadd C.1 C.2.1 dX0_coverFrom_85 ?_
  refine lv_iload_n C.1 C.2.1 dX0_coverFrom_86 rfl (lv_at hl 3 rfl) ?_
  refine lv_iload C.1 C.2.1 dX0_coverFrom_87 (lv_at hl 4 rfl) ?_
  obtain ⟨v_6, hv_6, hf⟩ := bnd hf
  refine g_cie (wf := (xw cI q)) (S := S) (rest := []) xw_adr hw (g_runS (rm := ({ frames := n0 + 0, cells := 0, slots := 0, locals := n0 * 40 + 0 } : Room)) (As := [.ref (q 14), .ref (q 15), .int (x2 + 1), .int x3, .int x4]) (rest := []) C E hw F_X0_coverFrom (hrec S (x2 + 1) x3 x4 _ hv_6) km_X0_18 rfl hl.1 rfl (Nat.le_of_ble_eq_true rfl) ⟨by (try dsimp only [headSpec]); omega, by (try dsimp only [headSpec]); omega⟩ ⟨(Nat.le_of_ble_eq_true rfl), (Nat.le_of_ble_eq_true rfl)⟩ dX0_coverFrom_89) (fun H locs hw => ?_)
  exact g_iret C hw (Nat.le_of_ble_eq_true rfl) (Nat.le_of_ble_eq_true rfl) ⟨Option.some.inj hf, rfl⟩ dX0_coverFrom_92
def fX0_coverFrom : Nat → St → Int32 → Int32 → Int32 → Option Int32
  | 0, _, _, _, _ => none
  | n + 1, S, x2, x3, x4 =>
    if x4 = 0 then
      some 0
    else
      if x3 ≤ 0 then
        some (-1)
      else
        if x2 < 0 then
          some (-1)
        else
          if 16 ≤ x2 then
            some (-1)
          else
            Option.bind (ld S 11 17 x2) fun v_1 =>
            if (x4 &&& (v_1 ^^^ (-1))) = 0 then
              Option.bind (ld S 10 16 x2) fun v_2 =>
              if (x4 &&& v_2) = 0 then
                fX0_coverFrom_81 (fX0_coverFrom n) S x2 x3 x4
              else
                Option.bind (ld S 10 16 x2) fun v_3 =>
                Option.bind (some ((x4 &&& (v_3 ^^^ (-1))))) fun x5_4 =>
                Option.bind ((fX0_coverFrom n) S (x2 + 1) (x3 - 1) x5_4) fun v_5 =>
                if v_5 = (-1) then
                  fX0_coverFrom_81 (fX0_coverFrom n) S x2 x3 x4
                else
                  some (v_5 ||| ((1 : Int32) <<< (x2 &&& 31)))
            else
              some (-1)
set_option maxHeartbeats 4000000 in
set_option maxRecDepth 100000 in
theorem ctX0_coverFrom (l : Launch) {D : va_G} {cI : ClassId} {q : Nat → Nat} : ∀ (n : Nat) (S : St) (x2 : Int32) (x3 : Int32) (x4 : Int32) (sz : Nat) {r1 : Int32}, fX0_coverFrom n S x2 x3 x4 = some r1 → Met l yX0_coverFrom (Cond.code yX0_coverFrom cX0_coverFrom 7 (some .int) :: XALL) ({ frames := n + 0, cells := 0, slots := 0, locals := n * 40 + 0 } : Room) (va_Pc [.ref (q 14), .ref (q 15), .int x2, .int x3, .int x4] (gPre D cI ((xw cI q) S) sz)) (gQi D (xw cI q) S (fun (r : Int32) (u : St) => r = r1 ∧ u = S) sz) 0 0 (va_A ((xw cI q) S) sz) := by
  intro n
  induction n with
  | zero => intro S x2 x3 x4 sz r1 hf; rw [fX0_coverFrom] at hf; cases hf
  | succ n ih =>
    intro S x2 x3 x4 sz r1 hf
    rw [fX0_coverFrom] at hf
    refine Met.ofW (cc := cX0_coverFrom) (maxL := 7) (ret := (some .int)) (by decide) rfl ?_
    intro p e s m args below meth c s₁ B hml hv
    obtain ⟨rfl, hg⟩ := hv
    have C : Ctx p s m _ meth c cX0_coverFrom 7 RX0 (some .int) := Ctx.of B hml rfl
    obtain ⟨E, hw, hsz⟩ := g_start hg
    subst hsz
    have hl := lv_entry ([.ref (q 14), .ref (q 15), .int x2, .int x3, .int x4]) (n := 7) (Nat.le_of_ble_eq_true rfl)
    rw [lg_entry_eq]
    generalize (lg_sl ([.ref (q 14), .ref (q 15), .int x2, .int x3, .int x4]) ++ List.replicate (7 - (lg_sl ([.ref (q 14), .ref (q 15), .int x2, .int x3, .int x4])).length) Slot.unset).toArray = ls at hl ⊢
    have hl : lv_has ls 7 [(0, .ref (q 14)), (1, .ref (q 15)), (2, .int x2), (3, .int x3), (4, .int x4)] := hl
    have hrec := @ih
    refine lv_iload C.1 C.2.1 dX0_coverFrom_0 (lv_at hl 4 rfl) ?_
    refine lv_if_ne (tgt := 7) C.1 C.2.1 dX0_coverFrom_2 (by decide) (fun hc => ?_) (fun hc => ?_)
    · have hf := iff_ hc hf
      refine lv_iload_n C.1 C.2.1 dX0_coverFrom_7 rfl (lv_at hl 3 rfl) ?_
      refine lv_if_le (tgt := 32) C.1 C.2.1 dX0_coverFrom_8 (by decide) (fun hc => ?_) (fun hc => ?_)
      · have hf := ift hc hf
        refine lv_iconst (v := (-1)) C.1 C.2.1 dX0_coverFrom_32 (by decide) ?_
        exact g_iret C hw (Nat.le_of_ble_eq_true rfl) (Nat.le_of_ble_eq_true rfl) ⟨Option.some.inj hf, rfl⟩ dX0_coverFrom_33
      · have hf := iff_ hc hf
        refine lv_iload_n C.1 C.2.1 dX0_coverFrom_11 rfl (lv_at hl 2 rfl) ?_
        refine lv_if_lt (tgt := 32) C.1 C.2.1 dX0_coverFrom_12 (by decide) (fun hc => ?_) (fun hc => ?_)
        · have hf := ift hc hf
          refine lv_iconst (v := (-1)) C.1 C.2.1 dX0_coverFrom_32 (by decide) ?_
          exact g_iret C hw (Nat.le_of_ble_eq_true rfl) (Nat.le_of_ble_eq_true rfl) ⟨Option.some.inj hf, rfl⟩ dX0_coverFrom_33
        · have hf := iff_ hc hf
          refine lv_iload_n C.1 C.2.1 dX0_coverFrom_15 rfl (lv_at hl 2 rfl) ?_
          refine lv_bipush (v := 16) C.1 C.2.1 dX0_coverFrom_16 (by decide) ?_
          refine lv_icmp_ge (tgt := 32) C.1 C.2.1 dX0_coverFrom_18 (by decide) (fun hc => ?_) (fun hc => ?_)
          · have hf := ift hc hf
            refine lv_iconst (v := (-1)) C.1 C.2.1 dX0_coverFrom_32 (by decide) ?_
            exact g_iret C hw (Nat.le_of_ble_eq_true rfl) (Nat.le_of_ble_eq_true rfl) ⟨Option.some.inj hf, rfl⟩ dX0_coverFrom_33
          · have hf := iff_ hc hf
            refine lv_iload C.1 C.2.1 dX0_coverFrom_21 (lv_at hl 4 rfl) ?_
            refine lv_aload_n C.1 C.2.1 dX0_coverFrom_23 rfl (lv_at hl 1 rfl) ?_
            refine lv_iload_n C.1 C.2.1 dX0_coverFrom_24 rfl (lv_at hl 2 rfl) ?_
            obtain ⟨v_1, hv_1, hf⟩ := bnd hf
            refine g_ald C E hw 15 rfl (ld_some hv_1) dX0_coverFrom_25 ?_
            refine lv_iconst (v := (-1)) C.1 C.2.1 dX0_coverFrom_26 (by decide) ?_
            refine lv_ixor C.1 C.2.1 dX0_coverFrom_27 ?_
            refine lv_iand C.1 C.2.1 dX0_coverFrom_28 ?_
            refine lv_if_eq (tgt := 34) C.1 C.2.1 dX0_coverFrom_29 (by decide) (fun hc => ?_) (fun hc => ?_)
            · have hf := ift hc hf
              refine lv_iload C.1 C.2.1 dX0_coverFrom_34 (lv_at hl 4 rfl) ?_
              refine lv_aload_n C.1 C.2.1 dX0_coverFrom_36 rfl (lv_at hl 0 rfl) ?_
              refine lv_iload_n C.1 C.2.1 dX0_coverFrom_37 rfl (lv_at hl 2 rfl) ?_
              obtain ⟨v_2, hv_2, hf⟩ := bnd hf
              refine g_ald C E hw 14 rfl (ld_some hv_2) dX0_coverFrom_38 ?_
              refine lv_iand C.1 C.2.1 dX0_coverFrom_39 ?_
              refine lv_if_eq (tgt := 81) C.1 C.2.1 dX0_coverFrom_40 (by decide) (fun hc => ?_) (fun hc => ?_)
              · have hf := ift hc hf
                exact wX0_coverFrom_81 C E (fX0_coverFrom n) hrec S x2 x3 x4 hf _ _ _ hw (lv_sub hl [0, 1, 2, 3, 4] rfl)
              · have hf := iff_ hc hf
                refine lv_iload C.1 C.2.1 dX0_coverFrom_43 (lv_at hl 4 rfl) ?_
                refine lv_aload_n C.1 C.2.1 dX0_coverFrom_45 rfl (lv_at hl 0 rfl) ?_
                refine lv_iload_n C.1 C.2.1 dX0_coverFrom_46 rfl (lv_at hl 2 rfl) ?_
                obtain ⟨v_3, hv_3, hf⟩ := bnd hf
                refine g_ald C E hw 14 rfl (ld_some hv_3) dX0_coverFrom_47 ?_
                refine lv_iconst (v := (-1)) C.1 C.2.1 dX0_coverFrom_48 (by decide) ?_
                refine lv_ixor C.1 C.2.1 dX0_coverFrom_49 ?_
                refine lv_iand C.1 C.2.1 dX0_coverFrom_50 ?_
                obtain ⟨x5_4, hx5_4, hf⟩ := bnd hf
                refine topi_b hx5_4 ?_
                refine lv_istore (lv' := [(5, .int x5_4), (0, .ref (q 14)), (1, .ref (q 15)), (2, .int x2), (3, .int x3), (4, .int x4)]) C.1 C.2.1 dX0_coverFrom_51 hl (by decide) rfl (fun ls hl => ?_)
                refine lv_aload_n C.1 C.2.1 dX0_coverFrom_53 rfl (lv_at hl 1 rfl) ?_
                refine lv_aload_n C.1 C.2.1 dX0_coverFrom_54 rfl (lv_at hl 2 rfl) ?_
                refine lv_iload_n C.1 C.2.1 dX0_coverFrom_55 rfl (lv_at hl 3 rfl) ?_
                refine lv_iconst (v := 1) C.1 C.2.1 dX0_coverFrom_56 (by decide) ?_
                refine lv_iadd C.1 C.2.1 dX0_coverFrom_57 ?_
                refine lv_iload_n C.1 C.2.1 dX0_coverFrom_58 rfl (lv_at hl 4 rfl) ?_
                refine lv_iconst (v := 1) C.1 C.2.1 dX0_coverFrom_59 (by decide) ?_
                refine lv_isub C.1 C.2.1 dX0_coverFrom_60 ?_
                refine lv_iload C.1 C.2.1 dX0_coverFrom_61 (lv_at hl 0 rfl) ?_
                obtain ⟨v_5, hv_5, hf⟩ := bnd hf
                refine g_cie (wf := (xw cI q)) (S := S) (rest := []) xw_adr hw (g_runS (rm := ({ frames := n + 0, cells := 0, slots := 0, locals := n * 40 + 0 } : Room)) (As := [.ref (q 14), .ref (q 15), .int (x2 + 1), .int (x3 - 1), .int x5_4]) (rest := []) C E hw F_X0_coverFrom (ih S (x2 + 1) (x3 - 1) x5_4 _ hv_5) km_X0_18 rfl hl.1 rfl (Nat.le_of_ble_eq_true rfl) ⟨by (try dsimp only [headSpec]); omega, by (try dsimp only [headSpec]); omega⟩ ⟨(Nat.le_of_ble_eq_true rfl), (Nat.le_of_ble_eq_true rfl)⟩ dX0_coverFrom_63) (fun H locs hw => ?_)
                refine lv_istore (lv' := [(6, .int v_5), (5, .int x5_4), (0, .ref (q 14)), (1, .ref (q 15)), (2, .int x2), (3, .int x3), (4, .int x4)]) C.1 C.2.1 dX0_coverFrom_66 hl (by decide) rfl (fun ls hl => ?_)
                refine lv_iload C.1 C.2.1 dX0_coverFrom_68 (lv_at hl 0 rfl) ?_
                refine lv_iconst (v := (-1)) C.1 C.2.1 dX0_coverFrom_70 (by decide) ?_
                refine lv_icmp_eq (tgt := 81) C.1 C.2.1 dX0_coverFrom_71 (by decide) (fun hc => ?_) (fun hc => ?_)
                · have hf := ift hc hf
                  exact wX0_coverFrom_81 C E (fX0_coverFrom n) hrec S x2 x3 x4 hf _ _ _ hw (lv_sub hl [2, 3, 4, 5, 6] rfl)
                · have hf := iff_ hc hf
                  refine lv_iload C.1 C.2.1 dX0_coverFrom_74 (lv_at hl 0 rfl) ?_
                  refine lv_iconst (v := 1) C.1 C.2.1 dX0_coverFrom_76 (by decide) ?_
                  refine lv_iload_n C.1 C.2.1 dX0_coverFrom_77 rfl (lv_at hl 4 rfl) ?_
                  refine lv_ishl C.1 C.2.1 dX0_coverFrom_78 ?_
                  refine lv_ior C.1 C.2.1 dX0_coverFrom_79 ?_
                  exact g_iret C hw (Nat.le_of_ble_eq_true rfl) (Nat.le_of_ble_eq_true rfl) ⟨Option.some.inj hf, rfl⟩ dX0_coverFrom_80
            · have hf := iff_ hc hf
              refine lv_iconst (v := (-1)) C.1 C.2.1 dX0_coverFrom_32 (by decide) ?_
              exact g_iret C hw (Nat.le_of_ble_eq_true rfl) (Nat.le_of_ble_eq_true rfl) ⟨Option.some.inj hf, rfl⟩ dX0_coverFrom_33
    · have hf := ift hc hf
      refine lv_iconst (v := 0) C.1 C.2.1 dX0_coverFrom_5 (by decide) ?_
      exact g_iret C hw (Nat.le_of_ble_eq_true rfl) (Nat.le_of_ble_eq_true rfl) ⟨Option.some.inj hf, rfl⟩ dX0_coverFrom_6
/-! DreamLedger.CoverSearch.smallestOf -/
def fX0_smallestOf_36 (x1 : Int32) : Nat → St → Int32 → Option (Int32 × St)
  | 0, _, _ => none
  | n + 1, S, x2 =>
    if 16 < x2 then
      some (0, S)
    else
      Option.bind (fX0_coverFrom 20 S 0 x2 x1) fun v_5 =>
      if v_5 = (-1) then
        Option.bind (some (x2 + 1)) fun x2_6 =>
        fX0_smallestOf_36 x1 n S x2_6
      else
        some (v_5, S)
set_option maxHeartbeats 4000000 in
set_option maxRecDepth 100000 in
theorem wX0_smallestOf_36 {p : Program} {l : Launch} {e : Env} {s : State} {m : MethodId} {args : Array Value} {below : List Frame} {meth : Method} {c : Code} {D : va_G} {cI : ClassId} {q : Nat → Nat} (C : Ctx p s m args meth c cX0_smallestOf 4 RX0 (some .int)) (E : gE D cI s) {S0 : St} {r1 : Int32} {S1 : St} (x1 : Int32) : ∀ (n : Nat) (S : St) (x2 : Int32), fX0_smallestOf_36 x1 n S x2 = some (r1, S1) → ∀ (H : Heap) (locs : List Loc) (ls : Array Slot), gW D ((xw cI q) S0) ((xw cI q) S) s H locs → lv_has ls 4 [(0, .ref (q 3)), (1, .int x1), (2, .int x2)] → W p l e ({ frames := 21, cells := 0, slots := 0, locals := 826 } : Room) s m args below meth c H locs 0 0 (MQ below (gQi D (xw cI q) S0 (fun (r : Int32) (u : St) => r = r1 ∧ u = S1) s.heap.size) args s 0 0 (va_A ((xw cI q) S0) s.heap.size)) (F0 m 36 ls []) := by
  intro n
  induction n with
  | zero => intro S x2 hf; rw [fX0_smallestOf_36] at hf; cases hf
  | succ n ih =>
    intro S x2 hf H locs ls hw hl
    rw [fX0_smallestOf_36] at hf
    refine lv_iload_n C.1 C.2.1 dX0_smallestOf_36 rfl (lv_at hl 2 rfl) ?_
    refine lv_bipush (v := 16) C.1 C.2.1 dX0_smallestOf_37 (by decide) ?_
    refine lv_icmp_gt (tgt := 70) C.1 C.2.1 dX0_smallestOf_39 (by decide) (fun hc => ?_) (fun hc => ?_)
    · have hf := ift hc hf
      refine lv_iconst (v := 0) C.1 C.2.1 dX0_smallestOf_70 (by decide) ?_
      exact g_iret C hw (Nat.le_of_ble_eq_true rfl) (Nat.le_of_ble_eq_true rfl) ⟨congrArg Prod.fst (Option.some.inj hf), congrArg Prod.snd (Option.some.inj hf)⟩ dX0_smallestOf_71
    · have hf := iff_ hc hf
      refine lv_aload_n C.1 C.2.1 dX0_smallestOf_42 rfl (lv_at hl 0 rfl) ?_
      refine g_get C E hw inW0 3 rfl rfl 0 (by decide) kf_X0_9 rfl dX0_smallestOf_43 ?_
      refine lv_aload_n C.1 C.2.1 dX0_smallestOf_46 rfl (lv_at hl 0 rfl) ?_
      refine g_get C E hw inW0 3 rfl rfl 1 (by decide) kf_X0_15 rfl dX0_smallestOf_47 ?_
      refine lv_iconst (v := 0) C.1 C.2.1 dX0_smallestOf_50 (by decide) ?_
      refine lv_iload_n C.1 C.2.1 dX0_smallestOf_51 rfl (lv_at hl 2 rfl) ?_
      refine lv_iload_n C.1 C.2.1 dX0_smallestOf_52 rfl (lv_at hl 1 rfl) ?_
      obtain ⟨v_5, hv_5, hf⟩ := bnd hf
      refine g_cie (wf := (xw cI q)) (S := S) (rest := []) xw_adr hw (g_runS (rm := ({ frames := 20 + 0, cells := 0, slots := 0, locals := 20 * 40 + 0 } : Room)) (As := [.ref (q 14), .ref (q 15), .int 0, .int x2, .int x1]) (rest := []) C E hw F_X0_coverFrom (ctX0_coverFrom l (cI := cI) (D := D) (q := q) 20 S 0 x2 x1 _ hv_5) km_X0_18 rfl hl.1 rfl (Nat.le_of_ble_eq_true rfl) ⟨(Nat.le_of_ble_eq_true rfl), (Nat.le_of_ble_eq_true rfl)⟩ ⟨(Nat.le_of_ble_eq_true rfl), (Nat.le_of_ble_eq_true rfl)⟩ dX0_smallestOf_53) (fun H locs hw => ?_)
      refine lv_istore_n (lv' := [(3, .int v_5), (0, .ref (q 3)), (1, .int x1), (2, .int x2)]) C.1 C.2.1 dX0_smallestOf_56 rfl hl (by decide) rfl (fun ls hl => ?_)
      refine lv_iload_n C.1 C.2.1 dX0_smallestOf_57 rfl (lv_at hl 0 rfl) ?_
      refine lv_iconst (v := (-1)) C.1 C.2.1 dX0_smallestOf_58 (by decide) ?_
      refine lv_icmp_eq (tgt := 64) C.1 C.2.1 dX0_smallestOf_59 (by decide) (fun hc => ?_) (fun hc => ?_)
      · have hf := ift hc hf
        obtain ⟨x2_6, hx2_6, hf⟩ := bnd hf
        refine lv_iinc (v := x2_6) (lv' := [(2, .int x2_6), (3, .int v_5), (0, .ref (q 3)), (1, .int x1)]) C.1 C.2.1 dX0_smallestOf_64 hl (k := 3) rfl (inc1 hx2_6) (by decide) rfl (fun ls hl => ?_)
        refine lv_goto (tgt := 36) C.1 C.2.1 dX0_smallestOf_67 (by decide) ?_
        exact ih S x2_6 hf _ _ _ hw (lv_sub hl [2, 3, 0] rfl)
      · have hf := iff_ hc hf
        refine lv_iload_n C.1 C.2.1 dX0_smallestOf_62 rfl (lv_at hl 0 rfl) ?_
        exact g_iret C hw (Nat.le_of_ble_eq_true rfl) (Nat.le_of_ble_eq_true rfl) ⟨congrArg Prod.fst (Option.some.inj hf), congrArg Prod.snd (Option.some.inj hf)⟩ dX0_smallestOf_63
def fX0_smallestOf_3 (x1 : Int32) : Nat → St → Int32 → Option (Int32 × St)
  | 0, _, _ => none
  | n + 1, S, x2 =>
    if x2 < 0 then
      fX0_smallestOf_36 x1 100 S 0
    else
      Option.bind (ld S 11 17 (x2 + 1)) fun v_1 =>
      Option.bind (ld S 10 16 x2) fun v_2 =>
      Option.bind (sto S 11 17 x2 (v_1 ||| v_2)) fun S_3 =>
      Option.bind (some (x2 + (-1))) fun x2_4 =>
      fX0_smallestOf_3 x1 n S_3 x2_4
set_option maxHeartbeats 4000000 in
set_option maxRecDepth 100000 in
theorem wX0_smallestOf_3 {p : Program} {l : Launch} {e : Env} {s : State} {m : MethodId} {args : Array Value} {below : List Frame} {meth : Method} {c : Code} {D : va_G} {cI : ClassId} {q : Nat → Nat} (C : Ctx p s m args meth c cX0_smallestOf 4 RX0 (some .int)) (E : gE D cI s) {S0 : St} {r1 : Int32} {S1 : St} (x1 : Int32) : ∀ (n : Nat) (S : St) (x2 : Int32), fX0_smallestOf_3 x1 n S x2 = some (r1, S1) → ∀ (H : Heap) (locs : List Loc) (ls : Array Slot), gW D ((xw cI q) S0) ((xw cI q) S) s H locs → lv_has ls 4 [(0, .ref (q 3)), (1, .int x1), (2, .int x2)] → W p l e ({ frames := 21, cells := 0, slots := 0, locals := 826 } : Room) s m args below meth c H locs 0 0 (MQ below (gQi D (xw cI q) S0 (fun (r : Int32) (u : St) => r = r1 ∧ u = S1) s.heap.size) args s 0 0 (va_A ((xw cI q) S0) s.heap.size)) (F0 m 3 ls []) := by
  intro n
  induction n with
  | zero => intro S x2 hf; rw [fX0_smallestOf_3] at hf; cases hf
  | succ n ih =>
    intro S x2 hf H locs ls hw hl
    rw [fX0_smallestOf_3] at hf
    refine lv_iload_n C.1 C.2.1 dX0_smallestOf_3 rfl (lv_at hl 2 rfl) ?_
    refine lv_if_lt (tgt := 34) C.1 C.2.1 dX0_smallestOf_4 (by decide) (fun hc => ?_) (fun hc => ?_)
    · have hf := ift hc hf
      refine lv_iconst (v := 0) C.1 C.2.1 dX0_smallestOf_34 (by decide) ?_
      refine lv_istore_n (lv' := [(2, .int 0), (0, .ref (q 3)), (1, .int x1)]) C.1 C.2.1 dX0_smallestOf_35 rfl hl (by decide) rfl (fun ls hl => ?_)
      exact wX0_smallestOf_36 C E x1 100 S 0 hf _ _ _ hw (lv_sub hl [1, 2, 0] rfl)
    · have hf := iff_ hc hf
      refine lv_aload_n C.1 C.2.1 dX0_smallestOf_7 rfl (lv_at hl 0 rfl) ?_
      refine g_get C E hw inW0 3 rfl rfl 1 (by decide) kf_X0_15 rfl dX0_smallestOf_8 ?_
      refine lv_iload_n C.1 C.2.1 dX0_smallestOf_11 rfl (lv_at hl 2 rfl) ?_
      refine lv_aload_n C.1 C.2.1 dX0_smallestOf_12 rfl (lv_at hl 0 rfl) ?_
      refine g_get C E hw inW0 3 rfl rfl 1 (by decide) kf_X0_15 rfl dX0_smallestOf_13 ?_
      refine lv_iload_n C.1 C.2.1 dX0_smallestOf_16 rfl (lv_at hl 2 rfl) ?_
      refine lv_iconst (v := 1) C.1 C.2.1 dX0_smallestOf_17 (by decide) ?_
      refine lv_iadd C.1 C.2.1 dX0_smallestOf_18 ?_
      obtain ⟨v_1, hv_1, hf⟩ := bnd hf
      refine g_ald C E hw 15 rfl (ld_some hv_1) dX0_smallestOf_19 ?_
      refine lv_aload_n C.1 C.2.1 dX0_smallestOf_20 rfl (lv_at hl 0 rfl) ?_
      refine g_get C E hw inW0 3 rfl rfl 0 (by decide) kf_X0_9 rfl dX0_smallestOf_21 ?_
      refine lv_iload_n C.1 C.2.1 dX0_smallestOf_24 rfl (lv_at hl 2 rfl) ?_
      obtain ⟨v_2, hv_2, hf⟩ := bnd hf
      refine g_ald C E hw 14 rfl (ld_some hv_2) dX0_smallestOf_25 ?_
      refine lv_ior C.1 C.2.1 dX0_smallestOf_26 ?_
      obtain ⟨S_3, hS_3, hf⟩ := bnd hf
      refine g_ast C E hw 15 rfl (sto_some hS_3).1 (ws' := (xw cI q) S_3) (by rw [← (sto_some hS_3).2]; rfl) dX0_smallestOf_27 (fun H locs hw => ?_)
      obtain ⟨x2_4, hx2_4, hf⟩ := bnd hf
      refine lv_iinc (v := x2_4) (lv' := [(2, .int x2_4), (0, .ref (q 3)), (1, .int x1)]) C.1 C.2.1 dX0_smallestOf_28 hl (k := 2) rfl (incm1 hx2_4) (by decide) rfl (fun ls hl => ?_)
      refine lv_goto (tgt := 3) C.1 C.2.1 dX0_smallestOf_31 (by decide) ?_
      exact ih S_3 x2_4 hf _ _ _ hw (lv_sub hl [1, 2, 0] rfl)
def fX0_smallestOf (S : St) (x1 : Int32) : Option (Int32 × St) :=
  fX0_smallestOf_3 x1 100 S 15
set_option maxHeartbeats 4000000 in
set_option maxRecDepth 100000 in
theorem ctX0_smallestOf (l : Launch) {D : va_G} {cI : ClassId} {q : Nat → Nat} (S : St) (x1 : Int32) (sz : Nat) {r1 : Int32} {S1 : St} (hf : fX0_smallestOf S x1 = some (r1, S1)) : Met l yX0_smallestOf (Cond.code yX0_smallestOf cX0_smallestOf 4 (some .int) :: XALL) ({ frames := 21, cells := 0, slots := 0, locals := 826 } : Room) (va_Pc [.ref (q 3), .int x1] (gPre D cI ((xw cI q) S) sz)) (gQi D (xw cI q) S (fun (r : Int32) (u : St) => r = r1 ∧ u = S1) sz) 0 0 (va_A ((xw cI q) S) sz) := by
  unfold fX0_smallestOf at hf
  refine Met.ofW (cc := cX0_smallestOf) (maxL := 4) (ret := (some .int)) (by decide) rfl ?_
  intro p e s m args below meth c s₁ B hml hv
  obtain ⟨rfl, hg⟩ := hv
  have C : Ctx p s m _ meth c cX0_smallestOf 4 RX0 (some .int) := Ctx.of B hml rfl
  obtain ⟨E, hw, hsz⟩ := g_start hg
  subst hsz
  have hl := lv_entry ([.ref (q 3), .int x1]) (n := 4) (Nat.le_of_ble_eq_true rfl)
  rw [lg_entry_eq]
  generalize (lg_sl ([.ref (q 3), .int x1]) ++ List.replicate (4 - (lg_sl ([.ref (q 3), .int x1])).length) Slot.unset).toArray = ls at hl ⊢
  have hl : lv_has ls 4 [(0, .ref (q 3)), (1, .int x1)] := hl
  refine lv_bipush (v := 15) C.1 C.2.1 dX0_smallestOf_0 (by decide) ?_
  refine lv_istore_n (lv' := [(2, .int 15), (0, .ref (q 3)), (1, .int x1)]) C.1 C.2.1 dX0_smallestOf_2 rfl hl (by decide) rfl (fun ls hl => ?_)
  exact wX0_smallestOf_3 C E x1 100 S 15 hf _ _ _ hw (lv_sub hl [1, 2, 0] rfl)
end
section
/-! DreamLedger.addTag -/
def fX3_addTag (S : St) : Option (Int32 × St) :=
  if (S 14 0) < 16 then
    Option.bind (fX1_grow S) fun u_3 => pr u_3 fun v_1 S_2 =>
    some (v_1, S_2)
  else
    none
set_option maxHeartbeats 4000000 in
set_option maxRecDepth 100000 in
theorem ctX3_addTag (l : Launch) {D : va_G} {cI : ClassId} {q : Nat → Nat} (S : St) (sz : Nat) {r1 : Int32} {S1 : St} (hf : fX3_addTag S = some (r1, S1)) : Met l yX3_addTag (Cond.code yX3_addTag cX3_addTag 1 (some .int) :: XALL) ({ frames := 3, cells := 0, slots := 0, locals := 68 } : Room) (va_Pc [.ref (q 0)] (gPre D cI ((xw cI q) S) sz)) (gQi D (xw cI q) S (fun (r : Int32) (u : St) => r = r1 ∧ u = S1) sz) 0 0 (va_A ((xw cI q) S) sz) := by
  unfold fX3_addTag at hf
  refine Met.ofW (cc := cX3_addTag) (maxL := 1) (ret := (some .int)) (by decide) rfl ?_
  intro p e s m args below meth c s₁ B hml hv
  obtain ⟨rfl, hg⟩ := hv
  have C : Ctx p s m _ meth c cX3_addTag 1 RX3 (some .int) := Ctx.of B hml rfl
  obtain ⟨E, hw, hsz⟩ := g_start hg
  subst hsz
  have hl := lv_entry ([.ref (q 0)]) (n := 1) (Nat.le_of_ble_eq_true rfl)
  rw [lg_entry_eq]
  generalize (lg_sl ([.ref (q 0)]) ++ List.replicate (1 - (lg_sl ([.ref (q 0)])).length) Slot.unset).toArray = ls at hl ⊢
  have hl : lv_has ls 1 [(0, .ref (q 0))] := hl
  refine lv_aload_n C.1 C.2.1 dX3_addTag_0 rfl (lv_at hl 0 rfl) ?_
  refine g_get C E hw inW3 0 rfl rfl 0 (by decide) kf_X3_10 rfl dX3_addTag_1 ?_
  refine g_getN C E hw inW1 1 rfl rfl 2 (by decide) kfN_X3_43 rfl dX3_addTag_4 ?_
  refine lv_bipush (v := 16) C.1 C.2.1 dX3_addTag_7 (by decide) ?_
  refine lv_icmp_lt (tgt := 22) C.1 C.2.1 dX3_addTag_9 (by decide) (fun hc => ?_) (fun hc => ?_)
  · have hf := ift hc hf
    refine lv_aload_n C.1 C.2.1 dX3_addTag_22 rfl (lv_at hl 0 rfl) ?_
    refine g_get C E hw inW3 0 rfl rfl 0 (by decide) kf_X3_10 rfl dX3_addTag_23 ?_
    obtain ⟨⟨v_1, S_2⟩, hu_3, hf⟩ := bnd hf
    have hf := pr_r hf
    refine g_cie (wf := (xw cI q)) (S := S) (rest := []) xw_adr hw (g_runVN (rm := ({ frames := 2, cells := 0, slots := 0, locals := 47 } : Room)) (As := []) (rest := []) C E hw F_X1_grow (ctX1_grow l (cI := cI) (D := D) (q := q) S  _ hu_3) kmN_X3_54 1 rfl rfl rfl hl.1 rfl (Nat.le_of_ble_eq_true rfl) ⟨(Nat.le_of_ble_eq_true rfl), (Nat.le_of_ble_eq_true rfl)⟩ ⟨(Nat.le_of_ble_eq_true rfl), (Nat.le_of_ble_eq_true rfl)⟩ dX3_addTag_26) (fun H locs hw => ?_)
    exact g_iret C hw (Nat.le_of_ble_eq_true rfl) (Nat.le_of_ble_eq_true rfl) ⟨congrArg Prod.fst (Option.some.inj hf), congrArg Prod.snd (Option.some.inj hf)⟩ dX3_addTag_29
  · have hf := iff_ hc hf
    cases hf
/-! DreamLedger.requireTag -/
def fX3_requireTag (S : St) (x1 : Int32) : Option Unit :=
  if x1 < 0 then
    none
  else
    if x1 < (S 14 0) then
      some ()
    else
      none
set_option maxHeartbeats 4000000 in
set_option maxRecDepth 100000 in
theorem ctX3_requireTag (l : Launch) {D : va_G} {cI : ClassId} {q : Nat → Nat} (S : St) (x1 : Int32) (sz : Nat) {r1 : Unit} (hf : fX3_requireTag S x1 = some r1) : Met l yX3_requireTag (Cond.code yX3_requireTag cX3_requireTag 2 none :: XALL) ({ frames := 0, cells := 0, slots := 0, locals := 0 } : Room) (va_Pc [.ref (q 0), .int x1] (gPre D cI ((xw cI q) S) sz)) (gQv D (xw cI q) S (fun (u : St) => u = S) sz) 0 0 (va_A ((xw cI q) S) sz) := by
  unfold fX3_requireTag at hf
  refine Met.ofW (cc := cX3_requireTag) (maxL := 2) (ret := none) (by decide) rfl ?_
  intro p e s m args below meth c s₁ B hml hv
  obtain ⟨rfl, hg⟩ := hv
  have C : Ctx p s m _ meth c cX3_requireTag 2 RX3 none := Ctx.of B hml rfl
  obtain ⟨E, hw, hsz⟩ := g_start hg
  subst hsz
  have hl := lv_entry ([.ref (q 0), .int x1]) (n := 2) (Nat.le_of_ble_eq_true rfl)
  rw [lg_entry_eq]
  generalize (lg_sl ([.ref (q 0), .int x1]) ++ List.replicate (2 - (lg_sl ([.ref (q 0), .int x1])).length) Slot.unset).toArray = ls at hl ⊢
  have hl : lv_has ls 2 [(0, .ref (q 0)), (1, .int x1)] := hl
  refine lv_iload_n C.1 C.2.1 dX3_requireTag_0 rfl (lv_at hl 1 rfl) ?_
  refine lv_if_lt (tgt := 15) C.1 C.2.1 dX3_requireTag_1 (by decide) (fun hc => ?_) (fun hc => ?_)
  · have hf := ift hc hf
    cases hf
  · have hf := iff_ hc hf
    refine lv_iload_n C.1 C.2.1 dX3_requireTag_4 rfl (lv_at hl 1 rfl) ?_
    refine lv_aload_n C.1 C.2.1 dX3_requireTag_5 rfl (lv_at hl 0 rfl) ?_
    refine g_get C E hw inW3 0 rfl rfl 0 (by decide) kf_X3_10 rfl dX3_requireTag_6 ?_
    refine g_getN C E hw inW1 1 rfl rfl 2 (by decide) kfN_X3_43 rfl dX3_requireTag_9 ?_
    refine lv_icmp_lt (tgt := 25) C.1 C.2.1 dX3_requireTag_12 (by decide) (fun hc => ?_) (fun hc => ?_)
    · have hf := ift hc hf
      exact g_vret C hw (Nat.le_of_ble_eq_true rfl) (Nat.le_of_ble_eq_true rfl) rfl dX3_requireTag_25
    · have hf := iff_ hc hf
      cases hf
/-! DreamLedger.requirePlaceUnder -/
def fX3_requirePlaceUnder (S : St) (x1 : Int32) (x2 : Int32) : Option Unit :=
  Option.bind (fX3_requireTag S x1) fun z_1 =>
  Option.bind (fX3_requireTag S x2) fun z_2 =>
  if x1 = x2 then
    none
  else
    Option.bind (fX1_canHang S x1 x2) fun v_3 =>
    if v_3 = 0 then
      none
    else
      some ()
set_option maxHeartbeats 4000000 in
set_option maxRecDepth 100000 in
theorem ctX3_requirePlaceUnder (l : Launch) {D : va_G} {cI : ClassId} {q : Nat → Nat} (S : St) (x1 : Int32) (x2 : Int32) (sz : Nat) {r1 : Unit} (hf : fX3_requirePlaceUnder S x1 x2 = some r1) : Met l yX3_requirePlaceUnder (Cond.code yX3_requirePlaceUnder cX3_requirePlaceUnder 3 none :: XALL) ({ frames := 3, cells := 0, slots := 0, locals := 65 } : Room) (va_Pc [.ref (q 0), .int x1, .int x2] (gPre D cI ((xw cI q) S) sz)) (gQv D (xw cI q) S (fun (u : St) => u = S) sz) 0 0 (va_A ((xw cI q) S) sz) := by
  unfold fX3_requirePlaceUnder at hf
  refine Met.ofW (cc := cX3_requirePlaceUnder) (maxL := 3) (ret := none) (by decide) rfl ?_
  intro p e s m args below meth c s₁ B hml hv
  obtain ⟨rfl, hg⟩ := hv
  have C : Ctx p s m _ meth c cX3_requirePlaceUnder 3 RX3 none := Ctx.of B hml rfl
  obtain ⟨E, hw, hsz⟩ := g_start hg
  subst hsz
  have hl := lv_entry ([.ref (q 0), .int x1, .int x2]) (n := 3) (Nat.le_of_ble_eq_true rfl)
  rw [lg_entry_eq]
  generalize (lg_sl ([.ref (q 0), .int x1, .int x2]) ++ List.replicate (3 - (lg_sl ([.ref (q 0), .int x1, .int x2])).length) Slot.unset).toArray = ls at hl ⊢
  have hl : lv_has ls 3 [(0, .ref (q 0)), (1, .int x1), (2, .int x2)] := hl
  refine lv_aload_n C.1 C.2.1 dX3_requirePlaceUnder_0 rfl (lv_at hl 0 rfl) ?_
  refine lv_iload_n C.1 C.2.1 dX3_requirePlaceUnder_1 rfl (lv_at hl 1 rfl) ?_
  obtain ⟨z_1, hz_1, hf⟩ := bnd hf
  refine g_cve (wf := (xw cI q)) (S := S) (rest := []) xw_adr hw (g_runV (rm := ({ frames := 0, cells := 0, slots := 0, locals := 0 } : Room)) (As := [.int x1]) (rest := []) C E hw F_X3_requireTag (ctX3_requireTag l (cI := cI) (D := D) (q := q) S x1 _ hz_1) km_X3_76 0 rfl rfl rfl hl.1 rfl (Nat.le_of_ble_eq_true rfl) ⟨(Nat.le_of_ble_eq_true rfl), (Nat.le_of_ble_eq_true rfl)⟩ ⟨(Nat.le_of_ble_eq_true rfl), (Nat.le_of_ble_eq_true rfl)⟩ dX3_requirePlaceUnder_2) (fun H locs hw => ?_)
  refine lv_aload_n C.1 C.2.1 dX3_requirePlaceUnder_5 rfl (lv_at hl 0 rfl) ?_
  refine lv_iload_n C.1 C.2.1 dX3_requirePlaceUnder_6 rfl (lv_at hl 2 rfl) ?_
  obtain ⟨z_2, hz_2, hf⟩ := bnd hf
  refine g_cve (wf := (xw cI q)) (S := S) (rest := []) xw_adr hw (g_runV (rm := ({ frames := 0, cells := 0, slots := 0, locals := 0 } : Room)) (As := [.int x2]) (rest := []) C E hw F_X3_requireTag (ctX3_requireTag l (cI := cI) (D := D) (q := q) S x2 _ hz_2) km_X3_76 0 rfl rfl rfl hl.1 rfl (Nat.le_of_ble_eq_true rfl) ⟨(Nat.le_of_ble_eq_true rfl), (Nat.le_of_ble_eq_true rfl)⟩ ⟨(Nat.le_of_ble_eq_true rfl), (Nat.le_of_ble_eq_true rfl)⟩ dX3_requirePlaceUnder_7) (fun H locs hw => ?_)
  refine lv_iload_n C.1 C.2.1 dX3_requirePlaceUnder_10 rfl (lv_at hl 1 rfl) ?_
  refine lv_iload_n C.1 C.2.1 dX3_requirePlaceUnder_11 rfl (lv_at hl 2 rfl) ?_
  refine lv_icmp_ne (tgt := 25) C.1 C.2.1 dX3_requirePlaceUnder_12 (by decide) (fun hc => ?_) (fun hc => ?_)
  · have hf := iff_ hc hf
    refine lv_aload_n C.1 C.2.1 dX3_requirePlaceUnder_25 rfl (lv_at hl 0 rfl) ?_
    refine g_get C E hw inW3 0 rfl rfl 0 (by decide) kf_X3_10 rfl dX3_requirePlaceUnder_26 ?_
    refine lv_iload_n C.1 C.2.1 dX3_requirePlaceUnder_29 rfl (lv_at hl 1 rfl) ?_
    refine lv_iload_n C.1 C.2.1 dX3_requirePlaceUnder_30 rfl (lv_at hl 2 rfl) ?_
    obtain ⟨v_3, hv_3, hf⟩ := bnd hf
    refine g_cie (wf := (xw cI q)) (S := S) (rest := []) xw_adr hw (g_runVN (rm := ({ frames := 2, cells := 0, slots := 0, locals := 43 } : Room)) (As := [.int x1, .int x2]) (rest := []) C E hw F_X1_canHang (ctX1_canHang l (cI := cI) (D := D) (q := q) S x1 x2 _ hv_3) kmN_X3_174 1 rfl rfl rfl hl.1 rfl (Nat.le_of_ble_eq_true rfl) ⟨(Nat.le_of_ble_eq_true rfl), (Nat.le_of_ble_eq_true rfl)⟩ ⟨(Nat.le_of_ble_eq_true rfl), (Nat.le_of_ble_eq_true rfl)⟩ dX3_requirePlaceUnder_31) (fun H locs hw => ?_)
    refine lv_if_ne (tgt := 47) C.1 C.2.1 dX3_requirePlaceUnder_34 (by decide) (fun hc => ?_) (fun hc => ?_)
    · have hf := iff_ hc hf
      exact g_vret C hw (Nat.le_of_ble_eq_true rfl) (Nat.le_of_ble_eq_true rfl) rfl dX3_requirePlaceUnder_47
    · have hf := ift hc hf
      cases hf
  · have hf := ift hc hf
    cases hf
/-! DreamLedger.dreamsHaving -/
def fX3_dreamsHaving_4 (S : St) (x1 : Int32) : Nat → Int32 → Int32 → Option Int32
  | 0, _, _ => none
  | n + 1, x2, x3 =>
    if (S 12 0) ≤ x3 then
      some x2
    else
      Option.bind (ld S 1 24 x3) fun v_1 =>
      Option.bind (fX3_isIn x1 v_1) fun v_2 =>
      if v_2 = 0 then
        Option.bind (some (x3 + 1)) fun x3_3 =>
        fX3_dreamsHaving_4 S x1 n x2 x3_3
      else
        Option.bind (some ((x2 ||| ((1 : Int32) <<< (x3 &&& 31))))) fun x2_4 =>
        Option.bind (some (x3 + 1)) fun x3_5 =>
        fX3_dreamsHaving_4 S x1 n x2_4 x3_5
set_option maxHeartbeats 4000000 in
set_option maxRecDepth 100000 in
theorem wX3_dreamsHaving_4 {p : Program} {l : Launch} {e : Env} {s : State} {m : MethodId} {args : Array Value} {below : List Frame} {meth : Method} {c : Code} {D : va_G} {cI : ClassId} {q : Nat → Nat} (C : Ctx p s m args meth c cX3_dreamsHaving 4 RX3 (some .int)) (E : gE D cI s) {r1 : Int32} (S : St) (x1 : Int32) : ∀ (n : Nat) (x2 : Int32) (x3 : Int32), fX3_dreamsHaving_4 S x1 n x2 x3 = some r1 → ∀ (H : Heap) (locs : List Loc) (ls : Array Slot), gW D ((xw cI q) S) ((xw cI q) S) s H locs → lv_has ls 4 [(0, .ref (q 0)), (1, .int x1), (2, .int x2), (3, .int x3)] → W p l e ({ frames := 1, cells := 0, slots := 0, locals := 21 } : Room) s m args below meth c H locs 0 0 (MQ below (gQi D (xw cI q) S (fun (r : Int32) (u : St) => r = r1 ∧ u = S) s.heap.size) args s 0 0 (va_A ((xw cI q) S) s.heap.size)) (F0 m 4 ls []) := by
  intro n
  induction n with
  | zero => intro x2 x3 hf; rw [fX3_dreamsHaving_4] at hf; cases hf
  | succ n ih =>
    intro x2 x3 hf H locs ls hw hl
    rw [fX3_dreamsHaving_4] at hf
    refine lv_iload_n C.1 C.2.1 dX3_dreamsHaving_4 rfl (lv_at hl 3 rfl) ?_
    refine lv_aload_n C.1 C.2.1 dX3_dreamsHaving_5 rfl (lv_at hl 0 rfl) ?_
    refine g_get C E hw inW3 0 rfl rfl 7 (by decide) kf_X3_84 rfl dX3_dreamsHaving_6 ?_
    refine lv_icmp_ge (tgt := 37) C.1 C.2.1 dX3_dreamsHaving_9 (by decide) (fun hc => ?_) (fun hc => ?_)
    · have hf := ift hc hf
      refine lv_iload_n C.1 C.2.1 dX3_dreamsHaving_37 rfl (lv_at hl 2 rfl) ?_
      exact g_iret C hw (Nat.le_of_ble_eq_true rfl) (Nat.le_of_ble_eq_true rfl) ⟨Option.some.inj hf, rfl⟩ dX3_dreamsHaving_38
    · have hf := iff_ hc hf
      refine lv_iload_n C.1 C.2.1 dX3_dreamsHaving_12 rfl (lv_at hl 1 rfl) ?_
      refine lv_aload_n C.1 C.2.1 dX3_dreamsHaving_13 rfl (lv_at hl 0 rfl) ?_
      refine g_get C E hw inW3 0 rfl rfl 4 (by decide) kf_X3_34 rfl dX3_dreamsHaving_14 ?_
      refine lv_iload_n C.1 C.2.1 dX3_dreamsHaving_17 rfl (lv_at hl 3 rfl) ?_
      obtain ⟨v_1, hv_1, hf⟩ := bnd hf
      refine g_ald C E hw 5 rfl (ld_some hv_1) dX3_dreamsHaving_18 ?_
      obtain ⟨v_2, hv_2, hf⟩ := bnd hf
      refine g_ci0e (rest := []) hw (g_run0 (rm := ({ frames := 0, cells := 0, slots := 0, locals := 0 } : Room)) (As := [.int x1, .int v_1]) (rest := []) C F_X3_isIn (ctX3_isIn l x1 v_1 hv_2) km_X3_98 rfl hl.1 rfl (Nat.le_of_ble_eq_true rfl) ⟨(Nat.le_of_ble_eq_true rfl), (Nat.le_of_ble_eq_true rfl)⟩ ⟨(Nat.le_of_ble_eq_true rfl), (Nat.le_of_ble_eq_true rfl)⟩ dX3_dreamsHaving_19) (fun H locs hw => ?_)
      refine lv_if_eq (tgt := 31) C.1 C.2.1 dX3_dreamsHaving_22 (by decide) (fun hc => ?_) (fun hc => ?_)
      · have hf := ift hc hf
        obtain ⟨x3_3, hx3_3, hf⟩ := bnd hf
        refine lv_iinc (v := x3_3) (lv' := [(3, .int x3_3), (0, .ref (q 0)), (1, .int x1), (2, .int x2)]) C.1 C.2.1 dX3_dreamsHaving_31 hl (k := 3) rfl (inc1 hx3_3) (by decide) rfl (fun ls hl => ?_)
        refine lv_goto (tgt := 4) C.1 C.2.1 dX3_dreamsHaving_34 (by decide) ?_
        exact ih x2 x3_3 hf _ _ _ hw (lv_sub hl [1, 2, 3, 0] rfl)
      · have hf := iff_ hc hf
        refine lv_iload_n C.1 C.2.1 dX3_dreamsHaving_25 rfl (lv_at hl 2 rfl) ?_
        refine lv_iconst (v := 1) C.1 C.2.1 dX3_dreamsHaving_26 (by decide) ?_
        refine lv_iload_n C.1 C.2.1 dX3_dreamsHaving_27 rfl (lv_at hl 3 rfl) ?_
        refine lv_ishl C.1 C.2.1 dX3_dreamsHaving_28 ?_
        refine lv_ior C.1 C.2.1 dX3_dreamsHaving_29 ?_
        obtain ⟨x2_4, hx2_4, hf⟩ := bnd hf
        refine topi_b hx2_4 ?_
        refine lv_istore_n (lv' := [(2, .int x2_4), (0, .ref (q 0)), (1, .int x1), (3, .int x3)]) C.1 C.2.1 dX3_dreamsHaving_30 rfl hl (by decide) rfl (fun ls hl => ?_)
        obtain ⟨x3_5, hx3_5, hf⟩ := bnd hf
        refine lv_iinc (v := x3_5) (lv' := [(3, .int x3_5), (2, .int x2_4), (0, .ref (q 0)), (1, .int x1)]) C.1 C.2.1 dX3_dreamsHaving_31 hl (k := 3) rfl (inc1 hx3_5) (by decide) rfl (fun ls hl => ?_)
        refine lv_goto (tgt := 4) C.1 C.2.1 dX3_dreamsHaving_34 (by decide) ?_
        exact ih x2_4 x3_5 hf _ _ _ hw (lv_sub hl [2, 3, 1, 0] rfl)
def fX3_dreamsHaving (S : St) (x1 : Int32) : Option Int32 :=
  fX3_dreamsHaving_4 S x1 100 0 0
set_option maxHeartbeats 4000000 in
set_option maxRecDepth 100000 in
theorem ctX3_dreamsHaving (l : Launch) {D : va_G} {cI : ClassId} {q : Nat → Nat} (S : St) (x1 : Int32) (sz : Nat) {r1 : Int32} (hf : fX3_dreamsHaving S x1 = some r1) : Met l yX3_dreamsHaving (Cond.code yX3_dreamsHaving cX3_dreamsHaving 4 (some .int) :: XALL) ({ frames := 1, cells := 0, slots := 0, locals := 21 } : Room) (va_Pc [.ref (q 0), .int x1] (gPre D cI ((xw cI q) S) sz)) (gQi D (xw cI q) S (fun (r : Int32) (u : St) => r = r1 ∧ u = S) sz) 0 0 (va_A ((xw cI q) S) sz) := by
  unfold fX3_dreamsHaving at hf
  refine Met.ofW (cc := cX3_dreamsHaving) (maxL := 4) (ret := (some .int)) (by decide) rfl ?_
  intro p e s m args below meth c s₁ B hml hv
  obtain ⟨rfl, hg⟩ := hv
  have C : Ctx p s m _ meth c cX3_dreamsHaving 4 RX3 (some .int) := Ctx.of B hml rfl
  obtain ⟨E, hw, hsz⟩ := g_start hg
  subst hsz
  have hl := lv_entry ([.ref (q 0), .int x1]) (n := 4) (Nat.le_of_ble_eq_true rfl)
  rw [lg_entry_eq]
  generalize (lg_sl ([.ref (q 0), .int x1]) ++ List.replicate (4 - (lg_sl ([.ref (q 0), .int x1])).length) Slot.unset).toArray = ls at hl ⊢
  have hl : lv_has ls 4 [(0, .ref (q 0)), (1, .int x1)] := hl
  refine lv_iconst (v := 0) C.1 C.2.1 dX3_dreamsHaving_0 (by decide) ?_
  refine lv_istore_n (lv' := [(2, .int 0), (0, .ref (q 0)), (1, .int x1)]) C.1 C.2.1 dX3_dreamsHaving_1 rfl hl (by decide) rfl (fun ls hl => ?_)
  refine lv_iconst (v := 0) C.1 C.2.1 dX3_dreamsHaving_2 (by decide) ?_
  refine lv_istore_n (lv' := [(3, .int 0), (2, .int 0), (0, .ref (q 0)), (1, .int x1)]) C.1 C.2.1 dX3_dreamsHaving_3 rfl hl (by decide) rfl (fun ls hl => ?_)
  exact wX3_dreamsHaving_4 C E S x1 100 0 0 hf _ _ _ hw (lv_sub hl [2, 3, 1, 0] rfl)
/-! DreamLedger.allDreams -/
def fX3_allDreams (S : St) : Option Int32 :=
  some (((1 : Int32) <<< ((S 12 0) &&& 31)) - 1)
set_option maxHeartbeats 4000000 in
set_option maxRecDepth 100000 in
theorem ctX3_allDreams (l : Launch) {D : va_G} {cI : ClassId} {q : Nat → Nat} (S : St) (sz : Nat) {r1 : Int32} (hf : fX3_allDreams S = some r1) : Met l yX3_allDreams (Cond.code yX3_allDreams cX3_allDreams 1 (some .int) :: XALL) ({ frames := 0, cells := 0, slots := 0, locals := 0 } : Room) (va_Pc [.ref (q 0)] (gPre D cI ((xw cI q) S) sz)) (gQi D (xw cI q) S (fun (r : Int32) (u : St) => r = r1 ∧ u = S) sz) 0 0 (va_A ((xw cI q) S) sz) := by
  unfold fX3_allDreams at hf
  refine Met.ofW (cc := cX3_allDreams) (maxL := 1) (ret := (some .int)) (by decide) rfl ?_
  intro p e s m args below meth c s₁ B hml hv
  obtain ⟨rfl, hg⟩ := hv
  have C : Ctx p s m _ meth c cX3_allDreams 1 RX3 (some .int) := Ctx.of B hml rfl
  obtain ⟨E, hw, hsz⟩ := g_start hg
  subst hsz
  have hl := lv_entry ([.ref (q 0)]) (n := 1) (Nat.le_of_ble_eq_true rfl)
  rw [lg_entry_eq]
  generalize (lg_sl ([.ref (q 0)]) ++ List.replicate (1 - (lg_sl ([.ref (q 0)])).length) Slot.unset).toArray = ls at hl ⊢
  have hl : lv_has ls 1 [(0, .ref (q 0))] := hl
  refine lv_iconst (v := 1) C.1 C.2.1 dX3_allDreams_0 (by decide) ?_
  refine lv_aload_n C.1 C.2.1 dX3_allDreams_1 rfl (lv_at hl 0 rfl) ?_
  refine g_get C E hw inW3 0 rfl rfl 7 (by decide) kf_X3_84 rfl dX3_allDreams_2 ?_
  refine lv_ishl C.1 C.2.1 dX3_allDreams_5 ?_
  refine lv_iconst (v := 1) C.1 C.2.1 dX3_allDreams_6 (by decide) ?_
  refine lv_isub C.1 C.2.1 dX3_allDreams_7 ?_
  exact g_iret C hw (Nat.le_of_ble_eq_true rfl) (Nat.le_of_ble_eq_true rfl) ⟨Option.some.inj hf, rfl⟩ dX3_allDreams_8
/-! DreamLedger.rematchTerms -/
def fX3_rematchTerms_2 : Nat → St → Int32 → Option St
  | 0, _, _ => none
  | n + 1, S, x1 =>
    if (S 15 0) ≤ x1 then
      some S
    else
      Option.bind (ld S 6 20 x1) fun v_1 =>
      if v_1 = 0 then
        Option.bind (ld S 7 20 x1) fun v_5 =>
        Option.bind (fX3_dreamsHaving S v_5) fun v_6 =>
        Option.bind (sto S 9 20 x1 v_6) fun S_7 =>
        Option.bind (some (x1 + 1)) fun x1_8 =>
        fX3_rematchTerms_2 n S_7 x1_8
      else
        Option.bind (fX3_allDreams S) fun v_2 =>
        Option.bind (fX2_combine S x1 v_2) fun S_3 =>
        Option.bind (some (x1 + 1)) fun x1_4 =>
        fX3_rematchTerms_2 n S_3 x1_4
set_option maxHeartbeats 4000000 in
set_option maxRecDepth 100000 in
theorem wX3_rematchTerms_2 {p : Program} {l : Launch} {e : Env} {s : State} {m : MethodId} {args : Array Value} {below : List Frame} {meth : Method} {c : Code} {D : va_G} {cI : ClassId} {q : Nat → Nat} (C : Ctx p s m args meth c cX3_rematchTerms 2 RX3 none) (E : gE D cI s) {S0 : St} {S1 : St} : ∀ (n : Nat) (S : St) (x1 : Int32), fX3_rematchTerms_2 n S x1 = some S1 → ∀ (H : Heap) (locs : List Loc) (ls : Array Slot), gW D ((xw cI q) S0) ((xw cI q) S) s H locs → lv_has ls 2 [(0, .ref (q 0)), (1, .int x1)] → W p l e ({ frames := 2, cells := 0, slots := 0, locals := 46 } : Room) s m args below meth c H locs 0 0 (MQ below (gQv D (xw cI q) S0 (fun (u : St) => u = S1) s.heap.size) args s 0 0 (va_A ((xw cI q) S0) s.heap.size)) (F0 m 2 ls []) := by
  intro n
  induction n with
  | zero => intro S x1 hf; rw [fX3_rematchTerms_2] at hf; cases hf
  | succ n ih =>
    intro S x1 hf H locs ls hw hl
    rw [fX3_rematchTerms_2] at hf
    refine lv_iload_n C.1 C.2.1 dX3_rematchTerms_2 rfl (lv_at hl 1 rfl) ?_
    refine lv_aload_n C.1 C.2.1 dX3_rematchTerms_3 rfl (lv_at hl 0 rfl) ?_
    refine g_get C E hw inW3 0 rfl rfl 1 (by decide) kf_X3_19 rfl dX3_rematchTerms_4 ?_
    refine g_getN C E hw inW2 2 rfl rfl 4 (by decide) kfN_X3_135 rfl dX3_rematchTerms_7 ?_
    refine lv_icmp_ge (tgt := 68) C.1 C.2.1 dX3_rematchTerms_10 (by decide) (fun hc => ?_) (fun hc => ?_)
    · have hf := ift hc hf
      exact g_vret C hw (Nat.le_of_ble_eq_true rfl) (Nat.le_of_ble_eq_true rfl) (Option.some.inj hf) dX3_rematchTerms_68
    · have hf := iff_ hc hf
      refine lv_aload_n C.1 C.2.1 dX3_rematchTerms_13 rfl (lv_at hl 0 rfl) ?_
      refine g_get C E hw inW3 0 rfl rfl 1 (by decide) kf_X3_19 rfl dX3_rematchTerms_14 ?_
      refine g_getN C E hw inW2 2 rfl rfl 0 (by decide) kfN_X3_221 rfl dX3_rematchTerms_17 ?_
      refine lv_iload_n C.1 C.2.1 dX3_rematchTerms_20 rfl (lv_at hl 1 rfl) ?_
      obtain ⟨v_1, hv_1, hf⟩ := bnd hf
      refine g_ald C E hw 10 rfl (ld_some hv_1) dX3_rematchTerms_21 ?_
      refine lv_if_ne (tgt := 50) C.1 C.2.1 dX3_rematchTerms_22 (by decide) (fun hc => ?_) (fun hc => ?_)
      · have hf := iff_ hc hf
        refine lv_aload_n C.1 C.2.1 dX3_rematchTerms_50 rfl (lv_at hl 0 rfl) ?_
        refine g_get C E hw inW3 0 rfl rfl 1 (by decide) kf_X3_19 rfl dX3_rematchTerms_51 ?_
        refine lv_iload_n C.1 C.2.1 dX3_rematchTerms_54 rfl (lv_at hl 1 rfl) ?_
        refine lv_aload_n C.1 C.2.1 dX3_rematchTerms_55 rfl (lv_at hl 0 rfl) ?_
        obtain ⟨v_2, hv_2, hf⟩ := bnd hf
        refine g_cie (wf := (xw cI q)) (S := S) (rest := [.int x1, .ref (q 2)]) xw_adr hw (g_runV (rm := ({ frames := 0, cells := 0, slots := 0, locals := 0 } : Room)) (As := []) (rest := [.int x1, .ref (q 2)]) C E hw F_X3_allDreams (ctX3_allDreams l (cI := cI) (D := D) (q := q) S  _ hv_2) km_X3_227 0 rfl rfl rfl hl.1 rfl (Nat.le_of_ble_eq_true rfl) ⟨(Nat.le_of_ble_eq_true rfl), (Nat.le_of_ble_eq_true rfl)⟩ ⟨(Nat.le_of_ble_eq_true rfl), (Nat.le_of_ble_eq_true rfl)⟩ dX3_rematchTerms_56) (fun H locs hw => ?_)
        obtain ⟨S_3, hS_3, hf⟩ := bnd hf
        refine g_cve (wf := (xw cI q)) (S := S) (rest := []) xw_adr hw (g_runVN (rm := ({ frames := 1, cells := 0, slots := 0, locals := 22 } : Room)) (As := [.int x1, .int v_2]) (rest := []) C E hw F_X2_combine (ctX2_combine l (cI := cI) (D := D) (q := q) S x1 v_2 _ hS_3) kmN_X3_230 2 rfl rfl rfl hl.1 rfl (Nat.le_of_ble_eq_true rfl) ⟨(Nat.le_of_ble_eq_true rfl), (Nat.le_of_ble_eq_true rfl)⟩ ⟨(Nat.le_of_ble_eq_true rfl), (Nat.le_of_ble_eq_true rfl)⟩ dX3_rematchTerms_59) (fun H locs hw => ?_)
        obtain ⟨x1_4, hx1_4, hf⟩ := bnd hf
        refine lv_iinc (v := x1_4) (lv' := [(1, .int x1_4), (0, .ref (q 0))]) C.1 C.2.1 dX3_rematchTerms_62 hl (k := 1) rfl (inc1 hx1_4) (by decide) rfl (fun ls hl => ?_)
        refine lv_goto (tgt := 2) C.1 C.2.1 dX3_rematchTerms_65 (by decide) ?_
        exact ih S_3 x1_4 hf _ _ _ hw (lv_sub hl [1, 0] rfl)
      · have hf := ift hc hf
        refine lv_aload_n C.1 C.2.1 dX3_rematchTerms_25 rfl (lv_at hl 0 rfl) ?_
        refine g_get C E hw inW3 0 rfl rfl 1 (by decide) kf_X3_19 rfl dX3_rematchTerms_26 ?_
        refine g_getN C E hw inW2 2 rfl rfl 3 (by decide) kfN_X3_151 rfl dX3_rematchTerms_29 ?_
        refine lv_iload_n C.1 C.2.1 dX3_rematchTerms_32 rfl (lv_at hl 1 rfl) ?_
        refine lv_aload_n C.1 C.2.1 dX3_rematchTerms_33 rfl (lv_at hl 0 rfl) ?_
        refine lv_aload_n C.1 C.2.1 dX3_rematchTerms_34 rfl (lv_at hl 0 rfl) ?_
        refine g_get C E hw inW3 0 rfl rfl 1 (by decide) kf_X3_19 rfl dX3_rematchTerms_35 ?_
        refine g_getN C E hw inW2 2 rfl rfl 1 (by decide) kfN_X3_224 rfl dX3_rematchTerms_38 ?_
        refine lv_iload_n C.1 C.2.1 dX3_rematchTerms_41 rfl (lv_at hl 1 rfl) ?_
        obtain ⟨v_5, hv_5, hf⟩ := bnd hf
        refine g_ald C E hw 11 rfl (ld_some hv_5) dX3_rematchTerms_42 ?_
        obtain ⟨v_6, hv_6, hf⟩ := bnd hf
        refine g_cie (wf := (xw cI q)) (S := S) (rest := [.int x1, .ref (q 13)]) xw_adr hw (g_runV (rm := ({ frames := 1, cells := 0, slots := 0, locals := 21 } : Room)) (As := [.int v_5]) (rest := [.int x1, .ref (q 13)]) C E hw F_X3_dreamsHaving (ctX3_dreamsHaving l (cI := cI) (D := D) (q := q) S v_5 _ hv_6) km_X3_148 0 rfl rfl rfl hl.1 rfl (Nat.le_of_ble_eq_true rfl) ⟨(Nat.le_of_ble_eq_true rfl), (Nat.le_of_ble_eq_true rfl)⟩ ⟨(Nat.le_of_ble_eq_true rfl), (Nat.le_of_ble_eq_true rfl)⟩ dX3_rematchTerms_43) (fun H locs hw => ?_)
        obtain ⟨S_7, hS_7, hf⟩ := bnd hf
        refine g_ast C E hw 13 rfl (sto_some hS_7).1 (ws' := (xw cI q) S_7) (by rw [← (sto_some hS_7).2]; rfl) dX3_rematchTerms_46 (fun H locs hw => ?_)
        refine lv_goto (tgt := 62) C.1 C.2.1 dX3_rematchTerms_47 (by decide) ?_
        obtain ⟨x1_8, hx1_8, hf⟩ := bnd hf
        refine lv_iinc (v := x1_8) (lv' := [(1, .int x1_8), (0, .ref (q 0))]) C.1 C.2.1 dX3_rematchTerms_62 hl (k := 1) rfl (inc1 hx1_8) (by decide) rfl (fun ls hl => ?_)
        refine lv_goto (tgt := 2) C.1 C.2.1 dX3_rematchTerms_65 (by decide) ?_
        exact ih S_7 x1_8 hf _ _ _ hw (lv_sub hl [1, 0] rfl)
def fX3_rematchTerms (S : St) : Option St :=
  fX3_rematchTerms_2 100 S 0
set_option maxHeartbeats 4000000 in
set_option maxRecDepth 100000 in
theorem ctX3_rematchTerms (l : Launch) {D : va_G} {cI : ClassId} {q : Nat → Nat} (S : St) (sz : Nat) {S1 : St} (hf : fX3_rematchTerms S = some S1) : Met l yX3_rematchTerms (Cond.code yX3_rematchTerms cX3_rematchTerms 2 none :: XALL) ({ frames := 2, cells := 0, slots := 0, locals := 46 } : Room) (va_Pc [.ref (q 0)] (gPre D cI ((xw cI q) S) sz)) (gQv D (xw cI q) S (fun (u : St) => u = S1) sz) 0 0 (va_A ((xw cI q) S) sz) := by
  unfold fX3_rematchTerms at hf
  refine Met.ofW (cc := cX3_rematchTerms) (maxL := 2) (ret := none) (by decide) rfl ?_
  intro p e s m args below meth c s₁ B hml hv
  obtain ⟨rfl, hg⟩ := hv
  have C : Ctx p s m _ meth c cX3_rematchTerms 2 RX3 none := Ctx.of B hml rfl
  obtain ⟨E, hw, hsz⟩ := g_start hg
  subst hsz
  have hl := lv_entry ([.ref (q 0)]) (n := 2) (Nat.le_of_ble_eq_true rfl)
  rw [lg_entry_eq]
  generalize (lg_sl ([.ref (q 0)]) ++ List.replicate (2 - (lg_sl ([.ref (q 0)])).length) Slot.unset).toArray = ls at hl ⊢
  have hl : lv_has ls 2 [(0, .ref (q 0))] := hl
  refine lv_iconst (v := 0) C.1 C.2.1 dX3_rematchTerms_0 (by decide) ?_
  refine lv_istore_n (lv' := [(1, .int 0), (0, .ref (q 0))]) C.1 C.2.1 dX3_rematchTerms_1 rfl hl (by decide) rfl (fun ls hl => ?_)
  exact wX3_rematchTerms_2 C E 100 S 0 hf _ _ _ hw (lv_sub hl [1, 0] rfl)
/-! DreamLedger.moveTag -/
def fX3_moveTag_11 : Nat → St → Int32 → Option St
  | 0, _, _ => none
  | n + 1, S, x3 =>
    if (S 12 0) ≤ x3 then
      Option.bind (fX3_rematchTerms S) fun S_2 =>
      some S_2
    else
      Option.bind (ld S 0 24 x3) fun v_3 =>
      Option.bind (fX1_linesOf S v_3) fun v_4 =>
      Option.bind (sto S 1 24 x3 v_4) fun S_5 =>
      Option.bind (some (x3 + 1)) fun x3_6 =>
      fX3_moveTag_11 n S_5 x3_6
set_option maxHeartbeats 4000000 in
set_option maxRecDepth 100000 in
theorem wX3_moveTag_11 {p : Program} {l : Launch} {e : Env} {s : State} {m : MethodId} {args : Array Value} {below : List Frame} {meth : Method} {c : Code} {D : va_G} {cI : ClassId} {q : Nat → Nat} (C : Ctx p s m args meth c cX3_moveTag 4 RX3 none) (E : gE D cI s) {S0 : St} {S1 : St} : ∀ (n : Nat) (S : St) (x3 : Int32), fX3_moveTag_11 n S x3 = some S1 → ∀ (H : Heap) (locs : List Loc) (ls : Array Slot), gW D ((xw cI q) S0) ((xw cI q) S) s H locs → lv_has ls 4 [(0, .ref (q 0)), (3, .int x3)] → W p l e ({ frames := 3, cells := 0, slots := 0, locals := 67 } : Room) s m args below meth c H locs 0 0 (MQ below (gQv D (xw cI q) S0 (fun (u : St) => u = S1) s.heap.size) args s 0 0 (va_A ((xw cI q) S0) s.heap.size)) (F0 m 11 ls []) := by
  intro n
  induction n with
  | zero => intro S x3 hf; rw [fX3_moveTag_11] at hf; cases hf
  | succ n ih =>
    intro S x3 hf H locs ls hw hl
    rw [fX3_moveTag_11] at hf
    refine lv_iload_n C.1 C.2.1 dX3_moveTag_11 rfl (lv_at hl 1 rfl) ?_
    refine lv_aload_n C.1 C.2.1 dX3_moveTag_12 rfl (lv_at hl 0 rfl) ?_
    refine g_get C E hw inW3 0 rfl rfl 7 (by decide) kf_X3_84 rfl dX3_moveTag_13 ?_
    refine lv_icmp_ge (tgt := 44) C.1 C.2.1 dX3_moveTag_16 (by decide) (fun hc => ?_) (fun hc => ?_)
    · have hf := ift hc hf
      refine lv_aload_n C.1 C.2.1 dX3_moveTag_44 rfl (lv_at hl 0 rfl) ?_
      obtain ⟨S_2, hS_2, hf⟩ := bnd hf
      refine g_cve (wf := (xw cI q)) (S := S) (rest := []) xw_adr hw (g_runV (rm := ({ frames := 2, cells := 0, slots := 0, locals := 46 } : Room)) (As := []) (rest := []) C E hw F_X3_rematchTerms (ctX3_rematchTerms l (cI := cI) (D := D) (q := q) S  _ hS_2) km_X3_215 0 rfl rfl rfl hl.1 rfl (Nat.le_of_ble_eq_true rfl) ⟨(Nat.le_of_ble_eq_true rfl), (Nat.le_of_ble_eq_true rfl)⟩ ⟨(Nat.le_of_ble_eq_true rfl), (Nat.le_of_ble_eq_true rfl)⟩ dX3_moveTag_45) (fun H locs hw => ?_)
      exact g_vret C hw (Nat.le_of_ble_eq_true rfl) (Nat.le_of_ble_eq_true rfl) (Option.some.inj hf) dX3_moveTag_48
    · have hf := iff_ hc hf
      refine lv_aload_n C.1 C.2.1 dX3_moveTag_19 rfl (lv_at hl 0 rfl) ?_
      refine g_get C E hw inW3 0 rfl rfl 4 (by decide) kf_X3_34 rfl dX3_moveTag_20 ?_
      refine lv_iload_n C.1 C.2.1 dX3_moveTag_23 rfl (lv_at hl 1 rfl) ?_
      refine lv_aload_n C.1 C.2.1 dX3_moveTag_24 rfl (lv_at hl 0 rfl) ?_
      refine g_get C E hw inW3 0 rfl rfl 0 (by decide) kf_X3_10 rfl dX3_moveTag_25 ?_
      refine lv_aload_n C.1 C.2.1 dX3_moveTag_28 rfl (lv_at hl 0 rfl) ?_
      refine g_get C E hw inW3 0 rfl rfl 3 (by decide) kf_X3_30 rfl dX3_moveTag_29 ?_
      refine lv_iload_n C.1 C.2.1 dX3_moveTag_32 rfl (lv_at hl 1 rfl) ?_
      obtain ⟨v_3, hv_3, hf⟩ := bnd hf
      refine g_ald C E hw 4 rfl (ld_some hv_3) dX3_moveTag_33 ?_
      obtain ⟨v_4, hv_4, hf⟩ := bnd hf
      refine g_cie (wf := (xw cI q)) (S := S) (rest := [.int x3, .ref (q 5)]) xw_adr hw (g_runVN (rm := ({ frames := 1, cells := 0, slots := 0, locals := 21 } : Room)) (As := [.int v_3]) (rest := [.int x3, .ref (q 5)]) C E hw F_X1_linesOf (ctX1_linesOf l (cI := cI) (D := D) (q := q) S v_3 _ hv_4) kmN_X3_212 1 rfl rfl rfl hl.1 rfl (Nat.le_of_ble_eq_true rfl) ⟨(Nat.le_of_ble_eq_true rfl), (Nat.le_of_ble_eq_true rfl)⟩ ⟨(Nat.le_of_ble_eq_true rfl), (Nat.le_of_ble_eq_true rfl)⟩ dX3_moveTag_34) (fun H locs hw => ?_)
      obtain ⟨S_5, hS_5, hf⟩ := bnd hf
      refine g_ast C E hw 5 rfl (sto_some hS_5).1 (ws' := (xw cI q) S_5) (by rw [← (sto_some hS_5).2]; rfl) dX3_moveTag_37 (fun H locs hw => ?_)
      obtain ⟨x3_6, hx3_6, hf⟩ := bnd hf
      refine lv_iinc (v := x3_6) (lv' := [(3, .int x3_6), (0, .ref (q 0))]) C.1 C.2.1 dX3_moveTag_38 hl (k := 1) rfl (inc1 hx3_6) (by decide) rfl (fun ls hl => ?_)
      refine lv_goto (tgt := 11) C.1 C.2.1 dX3_moveTag_41 (by decide) ?_
      exact ih S_5 x3_6 hf _ _ _ hw (lv_sub hl [1, 0] rfl)
def fX3_moveTag (S : St) (x1 : Int32) (x2 : Int32) : Option St :=
  Option.bind (fX1_hang S x1 x2) fun S_1 =>
  fX3_moveTag_11 100 S_1 0
set_option maxHeartbeats 4000000 in
set_option maxRecDepth 100000 in
theorem ctX3_moveTag (l : Launch) {D : va_G} {cI : ClassId} {q : Nat → Nat} (S : St) (x1 : Int32) (x2 : Int32) (sz : Nat) {S1 : St} (hf : fX3_moveTag S x1 x2 = some S1) : Met l yX3_moveTag (Cond.code yX3_moveTag cX3_moveTag 4 none :: XALL) ({ frames := 3, cells := 0, slots := 0, locals := 67 } : Room) (va_Pc [.ref (q 0), .int x1, .int x2] (gPre D cI ((xw cI q) S) sz)) (gQv D (xw cI q) S (fun (u : St) => u = S1) sz) 0 0 (va_A ((xw cI q) S) sz) := by
  unfold fX3_moveTag at hf
  refine Met.ofW (cc := cX3_moveTag) (maxL := 4) (ret := none) (by decide) rfl ?_
  intro p e s m args below meth c s₁ B hml hv
  obtain ⟨rfl, hg⟩ := hv
  have C : Ctx p s m _ meth c cX3_moveTag 4 RX3 none := Ctx.of B hml rfl
  obtain ⟨E, hw, hsz⟩ := g_start hg
  subst hsz
  have hl := lv_entry ([.ref (q 0), .int x1, .int x2]) (n := 4) (Nat.le_of_ble_eq_true rfl)
  rw [lg_entry_eq]
  generalize (lg_sl ([.ref (q 0), .int x1, .int x2]) ++ List.replicate (4 - (lg_sl ([.ref (q 0), .int x1, .int x2])).length) Slot.unset).toArray = ls at hl ⊢
  have hl : lv_has ls 4 [(0, .ref (q 0)), (1, .int x1), (2, .int x2)] := hl
  refine lv_aload_n C.1 C.2.1 dX3_moveTag_0 rfl (lv_at hl 0 rfl) ?_
  refine g_get C E hw inW3 0 rfl rfl 0 (by decide) kf_X3_10 rfl dX3_moveTag_1 ?_
  refine lv_iload_n C.1 C.2.1 dX3_moveTag_4 rfl (lv_at hl 1 rfl) ?_
  refine lv_iload_n C.1 C.2.1 dX3_moveTag_5 rfl (lv_at hl 2 rfl) ?_
  obtain ⟨S_1, hS_1, hf⟩ := bnd hf
  refine g_cve (wf := (xw cI q)) (S := S) (rest := []) xw_adr hw (g_runVN (rm := ({ frames := 1, cells := 0, slots := 0, locals := 24 } : Room)) (As := [.int x1, .int x2]) (rest := []) C E hw F_X1_hang (ctX1_hang l (cI := cI) (D := D) (q := q) S x1 x2 _ hS_1) kmN_X3_209 1 rfl rfl rfl hl.1 rfl (Nat.le_of_ble_eq_true rfl) ⟨(Nat.le_of_ble_eq_true rfl), (Nat.le_of_ble_eq_true rfl)⟩ ⟨(Nat.le_of_ble_eq_true rfl), (Nat.le_of_ble_eq_true rfl)⟩ dX3_moveTag_6) (fun H locs hw => ?_)
  refine lv_iconst (v := 0) C.1 C.2.1 dX3_moveTag_9 (by decide) ?_
  refine lv_istore_n (lv' := [(3, .int 0), (0, .ref (q 0)), (1, .int x1), (2, .int x2)]) C.1 C.2.1 dX3_moveTag_10 rfl hl (by decide) rfl (fun ls hl => ?_)
  exact wX3_moveTag_11 C E 100 S_1 0 hf _ _ _ hw (lv_sub hl [1, 0] rfl)
/-! DreamLedger.putUnder -/
def fX3_putUnder (S : St) (x1 : Int32) (x2 : Int32) : Option (Int32 × St) :=
  Option.bind (fX3_requirePlaceUnder S x1 x2) fun z_1 =>
  Option.bind (fX3_moveTag S x1 x2) fun S_2 =>
  Option.bind (fX1_countAbove S_2 x1) fun v_3 =>
  some (v_3, S_2)
set_option maxHeartbeats 4000000 in
set_option maxRecDepth 100000 in
theorem ctX3_putUnder (l : Launch) {D : va_G} {cI : ClassId} {q : Nat → Nat} (S : St) (x1 : Int32) (x2 : Int32) (sz : Nat) {r1 : Int32} {S1 : St} (hf : fX3_putUnder S x1 x2 = some (r1, S1)) : Met l yX3_putUnder (Cond.code yX3_putUnder cX3_putUnder 3 (some .int) :: XALL) ({ frames := 4, cells := 0, slots := 0, locals := 90 } : Room) (va_Pc [.ref (q 0), .int x1, .int x2] (gPre D cI ((xw cI q) S) sz)) (gQi D (xw cI q) S (fun (r : Int32) (u : St) => r = r1 ∧ u = S1) sz) 0 0 (va_A ((xw cI q) S) sz) := by
  unfold fX3_putUnder at hf
  refine Met.ofW (cc := cX3_putUnder) (maxL := 3) (ret := (some .int)) (by decide) rfl ?_
  intro p e s m args below meth c s₁ B hml hv
  obtain ⟨rfl, hg⟩ := hv
  have C : Ctx p s m _ meth c cX3_putUnder 3 RX3 (some .int) := Ctx.of B hml rfl
  obtain ⟨E, hw, hsz⟩ := g_start hg
  subst hsz
  have hl := lv_entry ([.ref (q 0), .int x1, .int x2]) (n := 3) (Nat.le_of_ble_eq_true rfl)
  rw [lg_entry_eq]
  generalize (lg_sl ([.ref (q 0), .int x1, .int x2]) ++ List.replicate (3 - (lg_sl ([.ref (q 0), .int x1, .int x2])).length) Slot.unset).toArray = ls at hl ⊢
  have hl : lv_has ls 3 [(0, .ref (q 0)), (1, .int x1), (2, .int x2)] := hl
  refine lv_aload_n C.1 C.2.1 dX3_putUnder_0 rfl (lv_at hl 0 rfl) ?_
  refine lv_iload_n C.1 C.2.1 dX3_putUnder_1 rfl (lv_at hl 1 rfl) ?_
  refine lv_iload_n C.1 C.2.1 dX3_putUnder_2 rfl (lv_at hl 2 rfl) ?_
  obtain ⟨z_1, hz_1, hf⟩ := bnd hf
  refine g_cve (wf := (xw cI q)) (S := S) (rest := []) xw_adr hw (g_runV (rm := ({ frames := 3, cells := 0, slots := 0, locals := 65 } : Room)) (As := [.int x1, .int x2]) (rest := []) C E hw F_X3_requirePlaceUnder (ctX3_requirePlaceUnder l (cI := cI) (D := D) (q := q) S x1 x2 _ hz_1) km_X3_58 0 rfl rfl rfl hl.1 rfl (Nat.le_of_ble_eq_true rfl) ⟨(Nat.le_of_ble_eq_true rfl), (Nat.le_of_ble_eq_true rfl)⟩ ⟨(Nat.le_of_ble_eq_true rfl), (Nat.le_of_ble_eq_true rfl)⟩ dX3_putUnder_3) (fun H locs hw => ?_)
  refine lv_aload_n C.1 C.2.1 dX3_putUnder_6 rfl (lv_at hl 0 rfl) ?_
  refine lv_iload_n C.1 C.2.1 dX3_putUnder_7 rfl (lv_at hl 1 rfl) ?_
  refine lv_iload_n C.1 C.2.1 dX3_putUnder_8 rfl (lv_at hl 2 rfl) ?_
  obtain ⟨S_2, hS_2, hf⟩ := bnd hf
  refine g_cve (wf := (xw cI q)) (S := S) (rest := []) xw_adr hw (g_runV (rm := ({ frames := 3, cells := 0, slots := 0, locals := 67 } : Room)) (As := [.int x1, .int x2]) (rest := []) C E hw F_X3_moveTag (ctX3_moveTag l (cI := cI) (D := D) (q := q) S x1 x2 _ hS_2) km_X3_62 0 rfl rfl rfl hl.1 rfl (Nat.le_of_ble_eq_true rfl) ⟨(Nat.le_of_ble_eq_true rfl), (Nat.le_of_ble_eq_true rfl)⟩ ⟨(Nat.le_of_ble_eq_true rfl), (Nat.le_of_ble_eq_true rfl)⟩ dX3_putUnder_9) (fun H locs hw => ?_)
  refine lv_aload_n C.1 C.2.1 dX3_putUnder_12 rfl (lv_at hl 0 rfl) ?_
  refine g_get C E hw inW3 0 rfl rfl 0 (by decide) kf_X3_10 rfl dX3_putUnder_13 ?_
  refine lv_iload_n C.1 C.2.1 dX3_putUnder_16 rfl (lv_at hl 1 rfl) ?_
  obtain ⟨v_3, hv_3, hf⟩ := bnd hf
  refine g_cie (wf := (xw cI q)) (S := S_2) (rest := []) xw_adr hw (g_runVN (rm := ({ frames := 1, cells := 0, slots := 0, locals := 20 } : Room)) (As := [.int x1]) (rest := []) C E hw F_X1_countAbove (ctX1_countAbove l (cI := cI) (D := D) (q := q) S_2 x1 _ hv_3) kmN_X3_65 1 rfl rfl rfl hl.1 rfl (Nat.le_of_ble_eq_true rfl) ⟨(Nat.le_of_ble_eq_true rfl), (Nat.le_of_ble_eq_true rfl)⟩ ⟨(Nat.le_of_ble_eq_true rfl), (Nat.le_of_ble_eq_true rfl)⟩ dX3_putUnder_17) (fun H locs hw => ?_)
  exact g_iret C hw (Nat.le_of_ble_eq_true rfl) (Nat.le_of_ble_eq_true rfl) ⟨congrArg Prod.fst (Option.some.inj hf), congrArg Prod.snd (Option.some.inj hf)⟩ dX3_putUnder_20
/-! DreamLedger.requireParent -/
def fX3_requireParent (S : St) (x1 : Int32) : Option Unit :=
  Option.bind (fX3_requireTag S x1) fun z_1 =>
  Option.bind (ld S 4 16 x1) fun v_2 =>
  if v_2 = (-1) then
    none
  else
    some ()
set_option maxHeartbeats 4000000 in
set_option maxRecDepth 100000 in
theorem ctX3_requireParent (l : Launch) {D : va_G} {cI : ClassId} {q : Nat → Nat} (S : St) (x1 : Int32) (sz : Nat) {r1 : Unit} (hf : fX3_requireParent S x1 = some r1) : Met l yX3_requireParent (Cond.code yX3_requireParent cX3_requireParent 2 none :: XALL) ({ frames := 1, cells := 0, slots := 0, locals := 21 } : Room) (va_Pc [.ref (q 0), .int x1] (gPre D cI ((xw cI q) S) sz)) (gQv D (xw cI q) S (fun (u : St) => u = S) sz) 0 0 (va_A ((xw cI q) S) sz) := by
  unfold fX3_requireParent at hf
  refine Met.ofW (cc := cX3_requireParent) (maxL := 2) (ret := none) (by decide) rfl ?_
  intro p e s m args below meth c s₁ B hml hv
  obtain ⟨rfl, hg⟩ := hv
  have C : Ctx p s m _ meth c cX3_requireParent 2 RX3 none := Ctx.of B hml rfl
  obtain ⟨E, hw, hsz⟩ := g_start hg
  subst hsz
  have hl := lv_entry ([.ref (q 0), .int x1]) (n := 2) (Nat.le_of_ble_eq_true rfl)
  rw [lg_entry_eq]
  generalize (lg_sl ([.ref (q 0), .int x1]) ++ List.replicate (2 - (lg_sl ([.ref (q 0), .int x1])).length) Slot.unset).toArray = ls at hl ⊢
  have hl : lv_has ls 2 [(0, .ref (q 0)), (1, .int x1)] := hl
  refine lv_aload_n C.1 C.2.1 dX3_requireParent_0 rfl (lv_at hl 0 rfl) ?_
  refine lv_iload_n C.1 C.2.1 dX3_requireParent_1 rfl (lv_at hl 1 rfl) ?_
  obtain ⟨z_1, hz_1, hf⟩ := bnd hf
  refine g_cve (wf := (xw cI q)) (S := S) (rest := []) xw_adr hw (g_runV (rm := ({ frames := 0, cells := 0, slots := 0, locals := 0 } : Room)) (As := [.int x1]) (rest := []) C E hw F_X3_requireTag (ctX3_requireTag l (cI := cI) (D := D) (q := q) S x1 _ hz_1) km_X3_76 0 rfl rfl rfl hl.1 rfl (Nat.le_of_ble_eq_true rfl) ⟨(Nat.le_of_ble_eq_true rfl), (Nat.le_of_ble_eq_true rfl)⟩ ⟨(Nat.le_of_ble_eq_true rfl), (Nat.le_of_ble_eq_true rfl)⟩ dX3_requireParent_2) (fun H locs hw => ?_)
  refine lv_aload_n C.1 C.2.1 dX3_requireParent_5 rfl (lv_at hl 0 rfl) ?_
  refine g_get C E hw inW3 0 rfl rfl 0 (by decide) kf_X3_10 rfl dX3_requireParent_6 ?_
  refine g_getN C E hw inW1 1 rfl rfl 0 (by decide) kfN_X3_73 rfl dX3_requireParent_9 ?_
  refine lv_iload_n C.1 C.2.1 dX3_requireParent_12 rfl (lv_at hl 1 rfl) ?_
  obtain ⟨v_2, hv_2, hf⟩ := bnd hf
  refine g_ald C E hw 8 rfl (ld_some hv_2) dX3_requireParent_13 ?_
  refine lv_iconst (v := (-1)) C.1 C.2.1 dX3_requireParent_14 (by decide) ?_
  refine lv_icmp_ne (tgt := 28) C.1 C.2.1 dX3_requireParent_15 (by decide) (fun hc => ?_) (fun hc => ?_)
  · have hf := iff_ hc hf
    exact g_vret C hw (Nat.le_of_ble_eq_true rfl) (Nat.le_of_ble_eq_true rfl) rfl dX3_requireParent_28
  · have hf := ift hc hf
    cases hf
/-! DreamLedger.freeTag -/
def fX3_freeTag (S : St) (x1 : Int32) : Option (Int32 × St) :=
  Option.bind (fX3_requireParent S x1) fun z_1 =>
  Option.bind (ld S 4 16 x1) fun v_2 =>
  Option.bind (fX3_moveTag S x1 (-1)) fun S_3 =>
  some (v_2, S_3)
set_option maxHeartbeats 4000000 in
set_option maxRecDepth 100000 in
theorem ctX3_freeTag (l : Launch) {D : va_G} {cI : ClassId} {q : Nat → Nat} (S : St) (x1 : Int32) (sz : Nat) {r1 : Int32} {S1 : St} (hf : fX3_freeTag S x1 = some (r1, S1)) : Met l yX3_freeTag (Cond.code yX3_freeTag cX3_freeTag 3 (some .int) :: XALL) ({ frames := 4, cells := 0, slots := 0, locals := 90 } : Room) (va_Pc [.ref (q 0), .int x1] (gPre D cI ((xw cI q) S) sz)) (gQi D (xw cI q) S (fun (r : Int32) (u : St) => r = r1 ∧ u = S1) sz) 0 0 (va_A ((xw cI q) S) sz) := by
  unfold fX3_freeTag at hf
  refine Met.ofW (cc := cX3_freeTag) (maxL := 3) (ret := (some .int)) (by decide) rfl ?_
  intro p e s m args below meth c s₁ B hml hv
  obtain ⟨rfl, hg⟩ := hv
  have C : Ctx p s m _ meth c cX3_freeTag 3 RX3 (some .int) := Ctx.of B hml rfl
  obtain ⟨E, hw, hsz⟩ := g_start hg
  subst hsz
  have hl := lv_entry ([.ref (q 0), .int x1]) (n := 3) (Nat.le_of_ble_eq_true rfl)
  rw [lg_entry_eq]
  generalize (lg_sl ([.ref (q 0), .int x1]) ++ List.replicate (3 - (lg_sl ([.ref (q 0), .int x1])).length) Slot.unset).toArray = ls at hl ⊢
  have hl : lv_has ls 3 [(0, .ref (q 0)), (1, .int x1)] := hl
  refine lv_aload_n C.1 C.2.1 dX3_freeTag_0 rfl (lv_at hl 0 rfl) ?_
  refine lv_iload_n C.1 C.2.1 dX3_freeTag_1 rfl (lv_at hl 1 rfl) ?_
  obtain ⟨z_1, hz_1, hf⟩ := bnd hf
  refine g_cve (wf := (xw cI q)) (S := S) (rest := []) xw_adr hw (g_runV (rm := ({ frames := 1, cells := 0, slots := 0, locals := 21 } : Room)) (As := [.int x1]) (rest := []) C E hw F_X3_requireParent (ctX3_requireParent l (cI := cI) (D := D) (q := q) S x1 _ hz_1) km_X3_69 0 rfl rfl rfl hl.1 rfl (Nat.le_of_ble_eq_true rfl) ⟨(Nat.le_of_ble_eq_true rfl), (Nat.le_of_ble_eq_true rfl)⟩ ⟨(Nat.le_of_ble_eq_true rfl), (Nat.le_of_ble_eq_true rfl)⟩ dX3_freeTag_2) (fun H locs hw => ?_)
  refine lv_aload_n C.1 C.2.1 dX3_freeTag_5 rfl (lv_at hl 0 rfl) ?_
  refine g_get C E hw inW3 0 rfl rfl 0 (by decide) kf_X3_10 rfl dX3_freeTag_6 ?_
  refine g_getN C E hw inW1 1 rfl rfl 0 (by decide) kfN_X3_73 rfl dX3_freeTag_9 ?_
  refine lv_iload_n C.1 C.2.1 dX3_freeTag_12 rfl (lv_at hl 1 rfl) ?_
  obtain ⟨v_2, hv_2, hf⟩ := bnd hf
  refine g_ald C E hw 8 rfl (ld_some hv_2) dX3_freeTag_13 ?_
  refine lv_istore_n (lv' := [(2, .int v_2), (0, .ref (q 0)), (1, .int x1)]) C.1 C.2.1 dX3_freeTag_14 rfl hl (by decide) rfl (fun ls hl => ?_)
  refine lv_aload_n C.1 C.2.1 dX3_freeTag_15 rfl (lv_at hl 1 rfl) ?_
  refine lv_iload_n C.1 C.2.1 dX3_freeTag_16 rfl (lv_at hl 2 rfl) ?_
  refine lv_iconst (v := (-1)) C.1 C.2.1 dX3_freeTag_17 (by decide) ?_
  obtain ⟨S_3, hS_3, hf⟩ := bnd hf
  refine g_cve (wf := (xw cI q)) (S := S) (rest := []) xw_adr hw (g_runV (rm := ({ frames := 3, cells := 0, slots := 0, locals := 67 } : Room)) (As := [.int x1, .int (-1)]) (rest := []) C E hw F_X3_moveTag (ctX3_moveTag l (cI := cI) (D := D) (q := q) S x1 (-1) _ hS_3) km_X3_62 0 rfl rfl rfl hl.1 rfl (Nat.le_of_ble_eq_true rfl) ⟨(Nat.le_of_ble_eq_true rfl), (Nat.le_of_ble_eq_true rfl)⟩ ⟨(Nat.le_of_ble_eq_true rfl), (Nat.le_of_ble_eq_true rfl)⟩ dX3_freeTag_18) (fun H locs hw => ?_)
  refine lv_iload_n C.1 C.2.1 dX3_freeTag_21 rfl (lv_at hl 0 rfl) ?_
  exact g_iret C hw (Nat.le_of_ble_eq_true rfl) (Nat.le_of_ble_eq_true rfl) ⟨congrArg Prod.fst (Option.some.inj hf), congrArg Prod.snd (Option.some.inj hf)⟩ dX3_freeTag_22
/-! DreamLedger.setOwnTags -/
def fX3_setOwnTags (S : St) (x1 : Int32) (x2 : Int32) : Option St :=
  Option.bind (sto S 0 24 x1 x2) fun S_1 =>
  Option.bind (fX1_linesOf S_1 x2) fun v_2 =>
  Option.bind (sto S_1 1 24 x1 v_2) fun S_3 =>
  Option.bind (fX3_rematchTerms S_3) fun S_4 =>
  some S_4
set_option maxHeartbeats 4000000 in
set_option maxRecDepth 100000 in
theorem ctX3_setOwnTags (l : Launch) {D : va_G} {cI : ClassId} {q : Nat → Nat} (S : St) (x1 : Int32) (x2 : Int32) (sz : Nat) {S1 : St} (hf : fX3_setOwnTags S x1 x2 = some S1) : Met l yX3_setOwnTags (Cond.code yX3_setOwnTags cX3_setOwnTags 3 none :: XALL) ({ frames := 3, cells := 0, slots := 0, locals := 67 } : Room) (va_Pc [.ref (q 0), .int x1, .int x2] (gPre D cI ((xw cI q) S) sz)) (gQv D (xw cI q) S (fun (u : St) => u = S1) sz) 0 0 (va_A ((xw cI q) S) sz) := by
  unfold fX3_setOwnTags at hf
  refine Met.ofW (cc := cX3_setOwnTags) (maxL := 3) (ret := none) (by decide) rfl ?_
  intro p e s m args below meth c s₁ B hml hv
  obtain ⟨rfl, hg⟩ := hv
  have C : Ctx p s m _ meth c cX3_setOwnTags 3 RX3 none := Ctx.of B hml rfl
  obtain ⟨E, hw, hsz⟩ := g_start hg
  subst hsz
  have hl := lv_entry ([.ref (q 0), .int x1, .int x2]) (n := 3) (Nat.le_of_ble_eq_true rfl)
  rw [lg_entry_eq]
  generalize (lg_sl ([.ref (q 0), .int x1, .int x2]) ++ List.replicate (3 - (lg_sl ([.ref (q 0), .int x1, .int x2])).length) Slot.unset).toArray = ls at hl ⊢
  have hl : lv_has ls 3 [(0, .ref (q 0)), (1, .int x1), (2, .int x2)] := hl
  refine lv_aload_n C.1 C.2.1 dX3_setOwnTags_0 rfl (lv_at hl 0 rfl) ?_
  refine g_get C E hw inW3 0 rfl rfl 3 (by decide) kf_X3_30 rfl dX3_setOwnTags_1 ?_
  refine lv_iload_n C.1 C.2.1 dX3_setOwnTags_4 rfl (lv_at hl 1 rfl) ?_
  refine lv_iload_n C.1 C.2.1 dX3_setOwnTags_5 rfl (lv_at hl 2 rfl) ?_
  obtain ⟨S_1, hS_1, hf⟩ := bnd hf
  refine g_ast C E hw 4 rfl (sto_some hS_1).1 (ws' := (xw cI q) S_1) (by rw [← (sto_some hS_1).2]; rfl) dX3_setOwnTags_6 (fun H locs hw => ?_)
  refine lv_aload_n C.1 C.2.1 dX3_setOwnTags_7 rfl (lv_at hl 0 rfl) ?_
  refine g_get C E hw inW3 0 rfl rfl 4 (by decide) kf_X3_34 rfl dX3_setOwnTags_8 ?_
  refine lv_iload_n C.1 C.2.1 dX3_setOwnTags_11 rfl (lv_at hl 1 rfl) ?_
  refine lv_aload_n C.1 C.2.1 dX3_setOwnTags_12 rfl (lv_at hl 0 rfl) ?_
  refine g_get C E hw inW3 0 rfl rfl 0 (by decide) kf_X3_10 rfl dX3_setOwnTags_13 ?_
  refine lv_iload_n C.1 C.2.1 dX3_setOwnTags_16 rfl (lv_at hl 2 rfl) ?_
  obtain ⟨v_2, hv_2, hf⟩ := bnd hf
  refine g_cie (wf := (xw cI q)) (S := S_1) (rest := [.int x1, .ref (q 5)]) xw_adr hw (g_runVN (rm := ({ frames := 1, cells := 0, slots := 0, locals := 21 } : Room)) (As := [.int x2]) (rest := [.int x1, .ref (q 5)]) C E hw F_X1_linesOf (ctX1_linesOf l (cI := cI) (D := D) (q := q) S_1 x2 _ hv_2) kmN_X3_212 1 rfl rfl rfl hl.1 rfl (Nat.le_of_ble_eq_true rfl) ⟨(Nat.le_of_ble_eq_true rfl), (Nat.le_of_ble_eq_true rfl)⟩ ⟨(Nat.le_of_ble_eq_true rfl), (Nat.le_of_ble_eq_true rfl)⟩ dX3_setOwnTags_17) (fun H locs hw => ?_)
  obtain ⟨S_3, hS_3, hf⟩ := bnd hf
  refine g_ast C E hw 5 rfl (sto_some hS_3).1 (ws' := (xw cI q) S_3) (by rw [← (sto_some hS_3).2]; rfl) dX3_setOwnTags_20 (fun H locs hw => ?_)
  refine lv_aload_n C.1 C.2.1 dX3_setOwnTags_21 rfl (lv_at hl 0 rfl) ?_
  obtain ⟨S_4, hS_4, hf⟩ := bnd hf
  refine g_cve (wf := (xw cI q)) (S := S_3) (rest := []) xw_adr hw (g_runV (rm := ({ frames := 2, cells := 0, slots := 0, locals := 46 } : Room)) (As := []) (rest := []) C E hw F_X3_rematchTerms (ctX3_rematchTerms l (cI := cI) (D := D) (q := q) S_3  _ hS_4) km_X3_215 0 rfl rfl rfl hl.1 rfl (Nat.le_of_ble_eq_true rfl) ⟨(Nat.le_of_ble_eq_true rfl), (Nat.le_of_ble_eq_true rfl)⟩ ⟨(Nat.le_of_ble_eq_true rfl), (Nat.le_of_ble_eq_true rfl)⟩ dX3_setOwnTags_22) (fun H locs hw => ?_)
  exact g_vret C hw (Nat.le_of_ble_eq_true rfl) (Nat.le_of_ble_eq_true rfl) (Option.some.inj hf) dX3_setOwnTags_25
/-! DreamLedger.addDream -/
def fX3_addDream (S : St) (x1 : Int32) (x2 : Int32) : Option (Int32 × St) :=
  Option.bind (fX3_requireTag S x1) fun z_1 =>
  if x2 < 1 then
    none
  else
    if x2 ≤ 9 then
      if (S 12 0) < 24 then
        Option.bind (some ((S 12 0))) fun x3_2 =>
        Option.bind (some (up S 12 0 ((S 12 0) + 1))) fun S_3 =>
        Option.bind (sto S_3 2 24 x3_2 x2) fun S_4 =>
        Option.bind (sto S_4 3 24 x3_2 (S_4 13 0)) fun S_5 =>
        Option.bind (fX3_setOwnTags S_5 x3_2 ((1 : Int32) <<< (x1 &&& 31))) fun S_6 =>
        some (x3_2, S_6)
      else
        none
    else
      none
set_option maxHeartbeats 4000000 in
set_option maxRecDepth 100000 in
theorem ctX3_addDream (l : Launch) {D : va_G} {cI : ClassId} {q : Nat → Nat} (S : St) (x1 : Int32) (x2 : Int32) (sz : Nat) {r1 : Int32} {S1 : St} (hf : fX3_addDream S x1 x2 = some (r1, S1)) : Met l yX3_addDream (Cond.code yX3_addDream cX3_addDream 4 (some .int) :: XALL) ({ frames := 4, cells := 0, slots := 0, locals := 89 } : Room) (va_Pc [.ref (q 0), .int x1, .int x2] (gPre D cI ((xw cI q) S) sz)) (gQi D (xw cI q) S (fun (r : Int32) (u : St) => r = r1 ∧ u = S1) sz) 0 0 (va_A ((xw cI q) S) sz) := by
  unfold fX3_addDream at hf
  refine Met.ofW (cc := cX3_addDream) (maxL := 4) (ret := (some .int)) (by decide) rfl ?_
  intro p e s m args below meth c s₁ B hml hv
  obtain ⟨rfl, hg⟩ := hv
  have C : Ctx p s m _ meth c cX3_addDream 4 RX3 (some .int) := Ctx.of B hml rfl
  obtain ⟨E, hw, hsz⟩ := g_start hg
  subst hsz
  have hl := lv_entry ([.ref (q 0), .int x1, .int x2]) (n := 4) (Nat.le_of_ble_eq_true rfl)
  rw [lg_entry_eq]
  generalize (lg_sl ([.ref (q 0), .int x1, .int x2]) ++ List.replicate (4 - (lg_sl ([.ref (q 0), .int x1, .int x2])).length) Slot.unset).toArray = ls at hl ⊢
  have hl : lv_has ls 4 [(0, .ref (q 0)), (1, .int x1), (2, .int x2)] := hl
  refine lv_aload_n C.1 C.2.1 dX3_addDream_0 rfl (lv_at hl 0 rfl) ?_
  refine lv_iload_n C.1 C.2.1 dX3_addDream_1 rfl (lv_at hl 1 rfl) ?_
  obtain ⟨z_1, hz_1, hf⟩ := bnd hf
  refine g_cve (wf := (xw cI q)) (S := S) (rest := []) xw_adr hw (g_runV (rm := ({ frames := 0, cells := 0, slots := 0, locals := 0 } : Room)) (As := [.int x1]) (rest := []) C E hw F_X3_requireTag (ctX3_requireTag l (cI := cI) (D := D) (q := q) S x1 _ hz_1) km_X3_76 0 rfl rfl rfl hl.1 rfl (Nat.le_of_ble_eq_true rfl) ⟨(Nat.le_of_ble_eq_true rfl), (Nat.le_of_ble_eq_true rfl)⟩ ⟨(Nat.le_of_ble_eq_true rfl), (Nat.le_of_ble_eq_true rfl)⟩ dX3_addDream_2) (fun H locs hw => ?_)
  refine lv_iload_n C.1 C.2.1 dX3_addDream_5 rfl (lv_at hl 2 rfl) ?_
  refine lv_iconst (v := 1) C.1 C.2.1 dX3_addDream_6 (by decide) ?_
  refine lv_icmp_lt (tgt := 16) C.1 C.2.1 dX3_addDream_7 (by decide) (fun hc => ?_) (fun hc => ?_)
  · have hf := ift hc hf
    cases hf
  · have hf := iff_ hc hf
    refine lv_iload_n C.1 C.2.1 dX3_addDream_10 rfl (lv_at hl 2 rfl) ?_
    refine lv_bipush (v := 9) C.1 C.2.1 dX3_addDream_11 (by decide) ?_
    refine lv_icmp_le (tgt := 26) C.1 C.2.1 dX3_addDream_13 (by decide) (fun hc => ?_) (fun hc => ?_)
    · have hf := ift hc hf
      refine lv_aload_n C.1 C.2.1 dX3_addDream_26 rfl (lv_at hl 0 rfl) ?_
      refine g_get C E hw inW3 0 rfl rfl 7 (by decide) kf_X3_84 rfl dX3_addDream_27 ?_
      refine lv_bipush (v := 24) C.1 C.2.1 dX3_addDream_30 (by decide) ?_
      refine lv_icmp_lt (tgt := 45) C.1 C.2.1 dX3_addDream_32 (by decide) (fun hc => ?_) (fun hc => ?_)
      · have hf := ift hc hf
        refine lv_aload_n C.1 C.2.1 dX3_addDream_45 rfl (lv_at hl 0 rfl) ?_
        refine g_get C E hw inW3 0 rfl rfl 7 (by decide) kf_X3_84 rfl dX3_addDream_46 ?_
        obtain ⟨x3_2, hx3_2, hf⟩ := bnd hf
        refine topi_b hx3_2 ?_
        refine lv_istore_n (lv' := [(3, .int x3_2), (0, .ref (q 0)), (1, .int x1), (2, .int x2)]) C.1 C.2.1 dX3_addDream_49 rfl hl (by decide) rfl (fun ls hl => ?_)
        refine lv_aload_n C.1 C.2.1 dX3_addDream_50 rfl (lv_at hl 1 rfl) ?_
        refine lv_dup C.1 C.2.1 dX3_addDream_51 rfl ?_
        refine g_get C E hw inW3 0 rfl rfl 7 (by decide) kf_X3_84 rfl dX3_addDream_52 ?_
        refine lv_iconst (v := 1) C.1 C.2.1 dX3_addDream_55 (by decide) ?_
        refine lv_iadd C.1 C.2.1 dX3_addDream_56 ?_
        obtain ⟨S_3, hS_3, hf⟩ := bnd hf
        refine g_put C E hw inW3 tyX3 tyX3_ok nmX3 0 rfl rfl 7 (by decide) kf_X3_84 rfl (by decide +kernel) (Nat.le_of_ble_eq_true rfl) (ws' := (xw cI q) S_3) (by rw [← Option.some.inj hS_3]; rfl) dX3_addDream_57 (fun H locs hw => ?_)
        refine lv_aload_n C.1 C.2.1 dX3_addDream_60 rfl (lv_at hl 1 rfl) ?_
        refine g_get C E hw inW3 0 rfl rfl 5 (by decide) kf_X3_37 rfl dX3_addDream_61 ?_
        refine lv_iload_n C.1 C.2.1 dX3_addDream_64 rfl (lv_at hl 0 rfl) ?_
        refine lv_iload_n C.1 C.2.1 dX3_addDream_65 rfl (lv_at hl 3 rfl) ?_
        obtain ⟨S_4, hS_4, hf⟩ := bnd hf
        refine g_ast C E hw 6 rfl (sto_some hS_4).1 (ws' := (xw cI q) S_4) (by rw [← (sto_some hS_4).2]; rfl) dX3_addDream_66 (fun H locs hw => ?_)
        refine lv_aload_n C.1 C.2.1 dX3_addDream_67 rfl (lv_at hl 1 rfl) ?_
        refine g_get C E hw inW3 0 rfl rfl 6 (by decide) kf_X3_40 rfl dX3_addDream_68 ?_
        refine lv_iload_n C.1 C.2.1 dX3_addDream_71 rfl (lv_at hl 0 rfl) ?_
        refine lv_aload_n C.1 C.2.1 dX3_addDream_72 rfl (lv_at hl 1 rfl) ?_
        refine g_get C E hw inW3 0 rfl rfl 8 (by decide) kf_X3_89 rfl dX3_addDream_73 ?_
        obtain ⟨S_5, hS_5, hf⟩ := bnd hf
        refine g_ast C E hw 7 rfl (sto_some hS_5).1 (ws' := (xw cI q) S_5) (by rw [← (sto_some hS_5).2]; rfl) dX3_addDream_76 (fun H locs hw => ?_)
        refine lv_aload_n C.1 C.2.1 dX3_addDream_77 rfl (lv_at hl 1 rfl) ?_
        refine lv_iload_n C.1 C.2.1 dX3_addDream_78 rfl (lv_at hl 0 rfl) ?_
        refine lv_iconst (v := 1) C.1 C.2.1 dX3_addDream_79 (by decide) ?_
        refine lv_iload_n C.1 C.2.1 dX3_addDream_80 rfl (lv_at hl 2 rfl) ?_
        refine lv_ishl C.1 C.2.1 dX3_addDream_81 ?_
        obtain ⟨S_6, hS_6, hf⟩ := bnd hf
        refine g_cve (wf := (xw cI q)) (S := S_5) (rest := []) xw_adr hw (g_runV (rm := ({ frames := 3, cells := 0, slots := 0, locals := 67 } : Room)) (As := [.int x3_2, .int ((1 : Int32) <<< (x1 &&& 31))]) (rest := []) C E hw F_X3_setOwnTags (ctX3_setOwnTags l (cI := cI) (D := D) (q := q) S_5 x3_2 ((1 : Int32) <<< (x1 &&& 31)) _ hS_6) km_X3_92 0 rfl rfl rfl hl.1 rfl (Nat.le_of_ble_eq_true rfl) ⟨(Nat.le_of_ble_eq_true rfl), (Nat.le_of_ble_eq_true rfl)⟩ ⟨(Nat.le_of_ble_eq_true rfl), (Nat.le_of_ble_eq_true rfl)⟩ dX3_addDream_82) (fun H locs hw => ?_)
        refine lv_iload_n C.1 C.2.1 dX3_addDream_85 rfl (lv_at hl 0 rfl) ?_
        exact g_iret C hw (Nat.le_of_ble_eq_true rfl) (Nat.le_of_ble_eq_true rfl) ⟨congrArg Prod.fst (Option.some.inj hf), congrArg Prod.snd (Option.some.inj hf)⟩ dX3_addDream_86
      · have hf := iff_ hc hf
        cases hf
    · have hf := iff_ hc hf
      cases hf
/-! DreamLedger.requireDream -/
def fX3_requireDream (S : St) (x1 : Int32) : Option Unit :=
  if x1 < 0 then
    none
  else
    if x1 < (S 12 0) then
      some ()
    else
      none
set_option maxHeartbeats 4000000 in
set_option maxRecDepth 100000 in
theorem ctX3_requireDream (l : Launch) {D : va_G} {cI : ClassId} {q : Nat → Nat} (S : St) (x1 : Int32) (sz : Nat) {r1 : Unit} (hf : fX3_requireDream S x1 = some r1) : Met l yX3_requireDream (Cond.code yX3_requireDream cX3_requireDream 2 none :: XALL) ({ frames := 0, cells := 0, slots := 0, locals := 0 } : Room) (va_Pc [.ref (q 0), .int x1] (gPre D cI ((xw cI q) S) sz)) (gQv D (xw cI q) S (fun (u : St) => u = S) sz) 0 0 (va_A ((xw cI q) S) sz) := by
  unfold fX3_requireDream at hf
  refine Met.ofW (cc := cX3_requireDream) (maxL := 2) (ret := none) (by decide) rfl ?_
  intro p e s m args below meth c s₁ B hml hv
  obtain ⟨rfl, hg⟩ := hv
  have C : Ctx p s m _ meth c cX3_requireDream 2 RX3 none := Ctx.of B hml rfl
  obtain ⟨E, hw, hsz⟩ := g_start hg
  subst hsz
  have hl := lv_entry ([.ref (q 0), .int x1]) (n := 2) (Nat.le_of_ble_eq_true rfl)
  rw [lg_entry_eq]
  generalize (lg_sl ([.ref (q 0), .int x1]) ++ List.replicate (2 - (lg_sl ([.ref (q 0), .int x1])).length) Slot.unset).toArray = ls at hl ⊢
  have hl : lv_has ls 2 [(0, .ref (q 0)), (1, .int x1)] := hl
  refine lv_iload_n C.1 C.2.1 dX3_requireDream_0 rfl (lv_at hl 1 rfl) ?_
  refine lv_if_lt (tgt := 12) C.1 C.2.1 dX3_requireDream_1 (by decide) (fun hc => ?_) (fun hc => ?_)
  · have hf := ift hc hf
    cases hf
  · have hf := iff_ hc hf
    refine lv_iload_n C.1 C.2.1 dX3_requireDream_4 rfl (lv_at hl 1 rfl) ?_
    refine lv_aload_n C.1 C.2.1 dX3_requireDream_5 rfl (lv_at hl 0 rfl) ?_
    refine g_get C E hw inW3 0 rfl rfl 7 (by decide) kf_X3_84 rfl dX3_requireDream_6 ?_
    refine lv_icmp_lt (tgt := 22) C.1 C.2.1 dX3_requireDream_9 (by decide) (fun hc => ?_) (fun hc => ?_)
    · have hf := ift hc hf
      exact g_vret C hw (Nat.le_of_ble_eq_true rfl) (Nat.le_of_ble_eq_true rfl) rfl dX3_requireDream_22
    · have hf := iff_ hc hf
      cases hf
/-! DreamLedger.tagDream -/
def fX3_tagDream (S : St) (x1 : Int32) (x2 : Int32) : Option (Int32 × St) :=
  Option.bind (fX3_requireDream S x1) fun z_1 =>
  Option.bind (fX3_requireTag S x2) fun z_2 =>
  Option.bind (ld S 0 24 x1) fun v_3 =>
  Option.bind (fX3_isIn x2 v_3) fun v_4 =>
  if v_4 = 0 then
    Option.bind (ld S 0 24 x1) fun v_5 =>
    Option.bind (fX3_setOwnTags S x1 (v_5 ||| ((1 : Int32) <<< (x2 &&& 31)))) fun S_6 =>
    Option.bind (ld S_6 0 24 x1) fun v_7 =>
    Option.bind (fJ6_bitCount_0f7a4 v_7) fun v_8 =>
    some (v_8, S_6)
  else
    none
set_option maxHeartbeats 4000000 in
set_option maxRecDepth 100000 in
theorem ctX3_tagDream (l : Launch) {D : va_G} {cI : ClassId} {q : Nat → Nat} (S : St) (x1 : Int32) (x2 : Int32) (sz : Nat) {r1 : Int32} {S1 : St} (hf : fX3_tagDream S x1 x2 = some (r1, S1)) : Met l yX3_tagDream (Cond.code yX3_tagDream cX3_tagDream 3 (some .int) :: XALL) ({ frames := 4, cells := 0, slots := 0, locals := 89 } : Room) (va_Pc [.ref (q 0), .int x1, .int x2] (gPre D cI ((xw cI q) S) sz)) (gQi D (xw cI q) S (fun (r : Int32) (u : St) => r = r1 ∧ u = S1) sz) 0 0 (va_A ((xw cI q) S) sz) := by
  unfold fX3_tagDream at hf
  refine Met.ofW (cc := cX3_tagDream) (maxL := 3) (ret := (some .int)) (by decide) rfl ?_
  intro p e s m args below meth c s₁ B hml hv
  obtain ⟨rfl, hg⟩ := hv
  have C : Ctx p s m _ meth c cX3_tagDream 3 RX3 (some .int) := Ctx.of B hml rfl
  obtain ⟨E, hw, hsz⟩ := g_start hg
  subst hsz
  have hl := lv_entry ([.ref (q 0), .int x1, .int x2]) (n := 3) (Nat.le_of_ble_eq_true rfl)
  rw [lg_entry_eq]
  generalize (lg_sl ([.ref (q 0), .int x1, .int x2]) ++ List.replicate (3 - (lg_sl ([.ref (q 0), .int x1, .int x2])).length) Slot.unset).toArray = ls at hl ⊢
  have hl : lv_has ls 3 [(0, .ref (q 0)), (1, .int x1), (2, .int x2)] := hl
  refine lv_aload_n C.1 C.2.1 dX3_tagDream_0 rfl (lv_at hl 0 rfl) ?_
  refine lv_iload_n C.1 C.2.1 dX3_tagDream_1 rfl (lv_at hl 1 rfl) ?_
  obtain ⟨z_1, hz_1, hf⟩ := bnd hf
  refine g_cve (wf := (xw cI q)) (S := S) (rest := []) xw_adr hw (g_runV (rm := ({ frames := 0, cells := 0, slots := 0, locals := 0 } : Room)) (As := [.int x1]) (rest := []) C E hw F_X3_requireDream (ctX3_requireDream l (cI := cI) (D := D) (q := q) S x1 _ hz_1) km_X3_95 0 rfl rfl rfl hl.1 rfl (Nat.le_of_ble_eq_true rfl) ⟨(Nat.le_of_ble_eq_true rfl), (Nat.le_of_ble_eq_true rfl)⟩ ⟨(Nat.le_of_ble_eq_true rfl), (Nat.le_of_ble_eq_true rfl)⟩ dX3_tagDream_2) (fun H locs hw => ?_)
  refine lv_aload_n C.1 C.2.1 dX3_tagDream_5 rfl (lv_at hl 0 rfl) ?_
  refine lv_iload_n C.1 C.2.1 dX3_tagDream_6 rfl (lv_at hl 2 rfl) ?_
  obtain ⟨z_2, hz_2, hf⟩ := bnd hf
  refine g_cve (wf := (xw cI q)) (S := S) (rest := []) xw_adr hw (g_runV (rm := ({ frames := 0, cells := 0, slots := 0, locals := 0 } : Room)) (As := [.int x2]) (rest := []) C E hw F_X3_requireTag (ctX3_requireTag l (cI := cI) (D := D) (q := q) S x2 _ hz_2) km_X3_76 0 rfl rfl rfl hl.1 rfl (Nat.le_of_ble_eq_true rfl) ⟨(Nat.le_of_ble_eq_true rfl), (Nat.le_of_ble_eq_true rfl)⟩ ⟨(Nat.le_of_ble_eq_true rfl), (Nat.le_of_ble_eq_true rfl)⟩ dX3_tagDream_7) (fun H locs hw => ?_)
  refine lv_iload_n C.1 C.2.1 dX3_tagDream_10 rfl (lv_at hl 2 rfl) ?_
  refine lv_aload_n C.1 C.2.1 dX3_tagDream_11 rfl (lv_at hl 0 rfl) ?_
  refine g_get C E hw inW3 0 rfl rfl 3 (by decide) kf_X3_30 rfl dX3_tagDream_12 ?_
  refine lv_iload_n C.1 C.2.1 dX3_tagDream_15 rfl (lv_at hl 1 rfl) ?_
  obtain ⟨v_3, hv_3, hf⟩ := bnd hf
  refine g_ald C E hw 4 rfl (ld_some hv_3) dX3_tagDream_16 ?_
  obtain ⟨v_4, hv_4, hf⟩ := bnd hf
  refine g_ci0e (rest := []) hw (g_run0 (rm := ({ frames := 0, cells := 0, slots := 0, locals := 0 } : Room)) (As := [.int x2, .int v_3]) (rest := []) C F_X3_isIn (ctX3_isIn l x2 v_3 hv_4) km_X3_98 rfl hl.1 rfl (Nat.le_of_ble_eq_true rfl) ⟨(Nat.le_of_ble_eq_true rfl), (Nat.le_of_ble_eq_true rfl)⟩ ⟨(Nat.le_of_ble_eq_true rfl), (Nat.le_of_ble_eq_true rfl)⟩ dX3_tagDream_17) (fun H locs hw => ?_)
  refine lv_if_eq (tgt := 33) C.1 C.2.1 dX3_tagDream_20 (by decide) (fun hc => ?_) (fun hc => ?_)
  · have hf := ift hc hf
    refine lv_aload_n C.1 C.2.1 dX3_tagDream_33 rfl (lv_at hl 0 rfl) ?_
    refine lv_iload_n C.1 C.2.1 dX3_tagDream_34 rfl (lv_at hl 1 rfl) ?_
    refine lv_aload_n C.1 C.2.1 dX3_tagDream_35 rfl (lv_at hl 0 rfl) ?_
    refine g_get C E hw inW3 0 rfl rfl 3 (by decide) kf_X3_30 rfl dX3_tagDream_36 ?_
    refine lv_iload_n C.1 C.2.1 dX3_tagDream_39 rfl (lv_at hl 1 rfl) ?_
    obtain ⟨v_5, hv_5, hf⟩ := bnd hf
    refine g_ald C E hw 4 rfl (ld_some hv_5) dX3_tagDream_40 ?_
    refine lv_iconst (v := 1) C.1 C.2.1 dX3_tagDream_41 (by decide) ?_
    refine lv_iload_n C.1 C.2.1 dX3_tagDream_42 rfl (lv_at hl 2 rfl) ?_
    refine lv_ishl C.1 C.2.1 dX3_tagDream_43 ?_
    refine lv_ior C.1 C.2.1 dX3_tagDream_44 ?_
    obtain ⟨S_6, hS_6, hf⟩ := bnd hf
    refine g_cve (wf := (xw cI q)) (S := S) (rest := []) xw_adr hw (g_runV (rm := ({ frames := 3, cells := 0, slots := 0, locals := 67 } : Room)) (As := [.int x1, .int (v_5 ||| ((1 : Int32) <<< (x2 &&& 31)))]) (rest := []) C E hw F_X3_setOwnTags (ctX3_setOwnTags l (cI := cI) (D := D) (q := q) S x1 (v_5 ||| ((1 : Int32) <<< (x2 &&& 31))) _ hS_6) km_X3_92 0 rfl rfl rfl hl.1 rfl (Nat.le_of_ble_eq_true rfl) ⟨(Nat.le_of_ble_eq_true rfl), (Nat.le_of_ble_eq_true rfl)⟩ ⟨(Nat.le_of_ble_eq_true rfl), (Nat.le_of_ble_eq_true rfl)⟩ dX3_tagDream_45) (fun H locs hw => ?_)
    refine lv_aload_n C.1 C.2.1 dX3_tagDream_48 rfl (lv_at hl 0 rfl) ?_
    refine g_get C E hw inW3 0 rfl rfl 3 (by decide) kf_X3_30 rfl dX3_tagDream_49 ?_
    refine lv_iload_n C.1 C.2.1 dX3_tagDream_52 rfl (lv_at hl 1 rfl) ?_
    obtain ⟨v_7, hv_7, hf⟩ := bnd hf
    refine g_ald C E hw 4 rfl (ld_some hv_7) dX3_tagDream_53 ?_
    obtain ⟨v_8, hv_8, hf⟩ := bnd hf
    refine g_ci0e (rest := []) hw (g_run0 (rm := ({ frames := 0, cells := 0, slots := 0, locals := 0 } : Room)) (As := [.int v_7]) (rest := []) C F_J6_bitCount_0f7a4 (ctJ6_bitCount_0f7a4 l v_7 hv_8) km_X3_104 rfl hl.1 rfl (Nat.le_of_ble_eq_true rfl) ⟨(Nat.le_of_ble_eq_true rfl), (Nat.le_of_ble_eq_true rfl)⟩ ⟨(Nat.le_of_ble_eq_true rfl), (Nat.le_of_ble_eq_true rfl)⟩ dX3_tagDream_54) (fun H locs hw => ?_)
    exact g_iret C hw (Nat.le_of_ble_eq_true rfl) (Nat.le_of_ble_eq_true rfl) ⟨congrArg Prod.fst (Option.some.inj hf), congrArg Prod.snd (Option.some.inj hf)⟩ dX3_tagDream_57
  · have hf := iff_ hc hf
    cases hf
/-! DreamLedger.untagDream -/
def fX3_untagDream (S : St) (x1 : Int32) (x2 : Int32) : Option (Int32 × St) :=
  Option.bind (fX3_requireDream S x1) fun z_1 =>
  Option.bind (fX3_requireTag S x2) fun z_2 =>
  Option.bind (ld S 0 24 x1) fun v_3 =>
  Option.bind (fX3_isIn x2 v_3) fun v_4 =>
  if v_4 = 0 then
    none
  else
    Option.bind (ld S 0 24 x1) fun v_5 =>
    if v_5 = ((1 : Int32) <<< (x2 &&& 31)) then
      none
    else
      Option.bind (ld S 0 24 x1) fun v_6 =>
      Option.bind (fX3_setOwnTags S x1 (v_6 &&& (((1 : Int32) <<< (x2 &&& 31)) ^^^ (-1)))) fun S_7 =>
      Option.bind (ld S_7 0 24 x1) fun v_8 =>
      Option.bind (fJ6_bitCount_0f7a4 v_8) fun v_9 =>
      some (v_9, S_7)
set_option maxHeartbeats 4000000 in
set_option maxRecDepth 100000 in
theorem ctX3_untagDream (l : Launch) {D : va_G} {cI : ClassId} {q : Nat → Nat} (S : St) (x1 : Int32) (x2 : Int32) (sz : Nat) {r1 : Int32} {S1 : St} (hf : fX3_untagDream S x1 x2 = some (r1, S1)) : Met l yX3_untagDream (Cond.code yX3_untagDream cX3_untagDream 3 (some .int) :: XALL) ({ frames := 4, cells := 0, slots := 0, locals := 89 } : Room) (va_Pc [.ref (q 0), .int x1, .int x2] (gPre D cI ((xw cI q) S) sz)) (gQi D (xw cI q) S (fun (r : Int32) (u : St) => r = r1 ∧ u = S1) sz) 0 0 (va_A ((xw cI q) S) sz) := by
  unfold fX3_untagDream at hf
  refine Met.ofW (cc := cX3_untagDream) (maxL := 3) (ret := (some .int)) (by decide) rfl ?_
  intro p e s m args below meth c s₁ B hml hv
  obtain ⟨rfl, hg⟩ := hv
  have C : Ctx p s m _ meth c cX3_untagDream 3 RX3 (some .int) := Ctx.of B hml rfl
  obtain ⟨E, hw, hsz⟩ := g_start hg
  subst hsz
  have hl := lv_entry ([.ref (q 0), .int x1, .int x2]) (n := 3) (Nat.le_of_ble_eq_true rfl)
  rw [lg_entry_eq]
  generalize (lg_sl ([.ref (q 0), .int x1, .int x2]) ++ List.replicate (3 - (lg_sl ([.ref (q 0), .int x1, .int x2])).length) Slot.unset).toArray = ls at hl ⊢
  have hl : lv_has ls 3 [(0, .ref (q 0)), (1, .int x1), (2, .int x2)] := hl
  refine lv_aload_n C.1 C.2.1 dX3_untagDream_0 rfl (lv_at hl 0 rfl) ?_
  refine lv_iload_n C.1 C.2.1 dX3_untagDream_1 rfl (lv_at hl 1 rfl) ?_
  obtain ⟨z_1, hz_1, hf⟩ := bnd hf
  refine g_cve (wf := (xw cI q)) (S := S) (rest := []) xw_adr hw (g_runV (rm := ({ frames := 0, cells := 0, slots := 0, locals := 0 } : Room)) (As := [.int x1]) (rest := []) C E hw F_X3_requireDream (ctX3_requireDream l (cI := cI) (D := D) (q := q) S x1 _ hz_1) km_X3_95 0 rfl rfl rfl hl.1 rfl (Nat.le_of_ble_eq_true rfl) ⟨(Nat.le_of_ble_eq_true rfl), (Nat.le_of_ble_eq_true rfl)⟩ ⟨(Nat.le_of_ble_eq_true rfl), (Nat.le_of_ble_eq_true rfl)⟩ dX3_untagDream_2) (fun H locs hw => ?_)
  refine lv_aload_n C.1 C.2.1 dX3_untagDream_5 rfl (lv_at hl 0 rfl) ?_
  refine lv_iload_n C.1 C.2.1 dX3_untagDream_6 rfl (lv_at hl 2 rfl) ?_
  obtain ⟨z_2, hz_2, hf⟩ := bnd hf
  refine g_cve (wf := (xw cI q)) (S := S) (rest := []) xw_adr hw (g_runV (rm := ({ frames := 0, cells := 0, slots := 0, locals := 0 } : Room)) (As := [.int x2]) (rest := []) C E hw F_X3_requireTag (ctX3_requireTag l (cI := cI) (D := D) (q := q) S x2 _ hz_2) km_X3_76 0 rfl rfl rfl hl.1 rfl (Nat.le_of_ble_eq_true rfl) ⟨(Nat.le_of_ble_eq_true rfl), (Nat.le_of_ble_eq_true rfl)⟩ ⟨(Nat.le_of_ble_eq_true rfl), (Nat.le_of_ble_eq_true rfl)⟩ dX3_untagDream_7) (fun H locs hw => ?_)
  refine lv_iload_n C.1 C.2.1 dX3_untagDream_10 rfl (lv_at hl 2 rfl) ?_
  refine lv_aload_n C.1 C.2.1 dX3_untagDream_11 rfl (lv_at hl 0 rfl) ?_
  refine g_get C E hw inW3 0 rfl rfl 3 (by decide) kf_X3_30 rfl dX3_untagDream_12 ?_
  refine lv_iload_n C.1 C.2.1 dX3_untagDream_15 rfl (lv_at hl 1 rfl) ?_
  obtain ⟨v_3, hv_3, hf⟩ := bnd hf
  refine g_ald C E hw 4 rfl (ld_some hv_3) dX3_untagDream_16 ?_
  obtain ⟨v_4, hv_4, hf⟩ := bnd hf
  refine g_ci0e (rest := []) hw (g_run0 (rm := ({ frames := 0, cells := 0, slots := 0, locals := 0 } : Room)) (As := [.int x2, .int v_3]) (rest := []) C F_X3_isIn (ctX3_isIn l x2 v_3 hv_4) km_X3_98 rfl hl.1 rfl (Nat.le_of_ble_eq_true rfl) ⟨(Nat.le_of_ble_eq_true rfl), (Nat.le_of_ble_eq_true rfl)⟩ ⟨(Nat.le_of_ble_eq_true rfl), (Nat.le_of_ble_eq_true rfl)⟩ dX3_untagDream_17) (fun H locs hw => ?_)
  refine lv_if_ne (tgt := 33) C.1 C.2.1 dX3_untagDream_20 (by decide) (fun hc => ?_) (fun hc => ?_)
  · have hf := iff_ hc hf
    refine lv_aload_n C.1 C.2.1 dX3_untagDream_33 rfl (lv_at hl 0 rfl) ?_
    refine g_get C E hw inW3 0 rfl rfl 3 (by decide) kf_X3_30 rfl dX3_untagDream_34 ?_
    refine lv_iload_n C.1 C.2.1 dX3_untagDream_37 rfl (lv_at hl 1 rfl) ?_
    obtain ⟨v_5, hv_5, hf⟩ := bnd hf
    refine g_ald C E hw 4 rfl (ld_some hv_5) dX3_untagDream_38 ?_
    refine lv_iconst (v := 1) C.1 C.2.1 dX3_untagDream_39 (by decide) ?_
    refine lv_iload_n C.1 C.2.1 dX3_untagDream_40 rfl (lv_at hl 2 rfl) ?_
    refine lv_ishl C.1 C.2.1 dX3_untagDream_41 ?_
    refine lv_icmp_ne (tgt := 55) C.1 C.2.1 dX3_untagDream_42 (by decide) (fun hc => ?_) (fun hc => ?_)
    · have hf := iff_ hc hf
      refine lv_aload_n C.1 C.2.1 dX3_untagDream_55 rfl (lv_at hl 0 rfl) ?_
      refine lv_iload_n C.1 C.2.1 dX3_untagDream_56 rfl (lv_at hl 1 rfl) ?_
      refine lv_aload_n C.1 C.2.1 dX3_untagDream_57 rfl (lv_at hl 0 rfl) ?_
      refine g_get C E hw inW3 0 rfl rfl 3 (by decide) kf_X3_30 rfl dX3_untagDream_58 ?_
      refine lv_iload_n C.1 C.2.1 dX3_untagDream_61 rfl (lv_at hl 1 rfl) ?_
      obtain ⟨v_6, hv_6, hf⟩ := bnd hf
      refine g_ald C E hw 4 rfl (ld_some hv_6) dX3_untagDream_62 ?_
      refine lv_iconst (v := 1) C.1 C.2.1 dX3_untagDream_63 (by decide) ?_
      refine lv_iload_n C.1 C.2.1 dX3_untagDream_64 rfl (lv_at hl 2 rfl) ?_
      refine lv_ishl C.1 C.2.1 dX3_untagDream_65 ?_
      refine lv_iconst (v := (-1)) C.1 C.2.1 dX3_untagDream_66 (by decide) ?_
      refine lv_ixor C.1 C.2.1 dX3_untagDream_67 ?_
      refine lv_iand C.1 C.2.1 dX3_untagDream_68 ?_
      obtain ⟨S_7, hS_7, hf⟩ := bnd hf
      refine g_cve (wf := (xw cI q)) (S := S) (rest := []) xw_adr hw (g_runV (rm := ({ frames := 3, cells := 0, slots := 0, locals := 67 } : Room)) (As := [.int x1, .int (v_6 &&& (((1 : Int32) <<< (x2 &&& 31)) ^^^ (-1)))]) (rest := []) C E hw F_X3_setOwnTags (ctX3_setOwnTags l (cI := cI) (D := D) (q := q) S x1 (v_6 &&& (((1 : Int32) <<< (x2 &&& 31)) ^^^ (-1))) _ hS_7) km_X3_92 0 rfl rfl rfl hl.1 rfl (Nat.le_of_ble_eq_true rfl) ⟨(Nat.le_of_ble_eq_true rfl), (Nat.le_of_ble_eq_true rfl)⟩ ⟨(Nat.le_of_ble_eq_true rfl), (Nat.le_of_ble_eq_true rfl)⟩ dX3_untagDream_69) (fun H locs hw => ?_)
      refine lv_aload_n C.1 C.2.1 dX3_untagDream_72 rfl (lv_at hl 0 rfl) ?_
      refine g_get C E hw inW3 0 rfl rfl 3 (by decide) kf_X3_30 rfl dX3_untagDream_73 ?_
      refine lv_iload_n C.1 C.2.1 dX3_untagDream_76 rfl (lv_at hl 1 rfl) ?_
      obtain ⟨v_8, hv_8, hf⟩ := bnd hf
      refine g_ald C E hw 4 rfl (ld_some hv_8) dX3_untagDream_77 ?_
      obtain ⟨v_9, hv_9, hf⟩ := bnd hf
      refine g_ci0e (rest := []) hw (g_run0 (rm := ({ frames := 0, cells := 0, slots := 0, locals := 0 } : Room)) (As := [.int v_8]) (rest := []) C F_J6_bitCount_0f7a4 (ctJ6_bitCount_0f7a4 l v_8 hv_9) km_X3_104 rfl hl.1 rfl (Nat.le_of_ble_eq_true rfl) ⟨(Nat.le_of_ble_eq_true rfl), (Nat.le_of_ble_eq_true rfl)⟩ ⟨(Nat.le_of_ble_eq_true rfl), (Nat.le_of_ble_eq_true rfl)⟩ dX3_untagDream_78) (fun H locs hw => ?_)
      exact g_iret C hw (Nat.le_of_ble_eq_true rfl) (Nat.le_of_ble_eq_true rfl) ⟨congrArg Prod.fst (Option.some.inj hf), congrArg Prod.snd (Option.some.inj hf)⟩ dX3_untagDream_81
    · have hf := ift hc hf
      cases hf
  · have hf := ift hc hf
    cases hf
/-! DreamLedger.recall -/
def fX3_recall (S : St) (x1 : Int32) (x2 : Int32) : Option (Int32 × St) :=
  Option.bind (fX3_requireDream S x1) fun z_1 =>
  if x2 < 0 then
    none
  else
    if x2 ≤ 9 then
      Option.bind (ld S 2 24 x1) fun v_2 =>
      Option.bind (sto S 2 24 x1 x2) fun S_3 =>
      some (v_2, S_3)
    else
      none
set_option maxHeartbeats 4000000 in
set_option maxRecDepth 100000 in
theorem ctX3_recall (l : Launch) {D : va_G} {cI : ClassId} {q : Nat → Nat} (S : St) (x1 : Int32) (x2 : Int32) (sz : Nat) {r1 : Int32} {S1 : St} (hf : fX3_recall S x1 x2 = some (r1, S1)) : Met l yX3_recall (Cond.code yX3_recall cX3_recall 4 (some .int) :: XALL) ({ frames := 1, cells := 0, slots := 0, locals := 21 } : Room) (va_Pc [.ref (q 0), .int x1, .int x2] (gPre D cI ((xw cI q) S) sz)) (gQi D (xw cI q) S (fun (r : Int32) (u : St) => r = r1 ∧ u = S1) sz) 0 0 (va_A ((xw cI q) S) sz) := by
  unfold fX3_recall at hf
  refine Met.ofW (cc := cX3_recall) (maxL := 4) (ret := (some .int)) (by decide) rfl ?_
  intro p e s m args below meth c s₁ B hml hv
  obtain ⟨rfl, hg⟩ := hv
  have C : Ctx p s m _ meth c cX3_recall 4 RX3 (some .int) := Ctx.of B hml rfl
  obtain ⟨E, hw, hsz⟩ := g_start hg
  subst hsz
  have hl := lv_entry ([.ref (q 0), .int x1, .int x2]) (n := 4) (Nat.le_of_ble_eq_true rfl)
  rw [lg_entry_eq]
  generalize (lg_sl ([.ref (q 0), .int x1, .int x2]) ++ List.replicate (4 - (lg_sl ([.ref (q 0), .int x1, .int x2])).length) Slot.unset).toArray = ls at hl ⊢
  have hl : lv_has ls 4 [(0, .ref (q 0)), (1, .int x1), (2, .int x2)] := hl
  refine lv_aload_n C.1 C.2.1 dX3_recall_0 rfl (lv_at hl 0 rfl) ?_
  refine lv_iload_n C.1 C.2.1 dX3_recall_1 rfl (lv_at hl 1 rfl) ?_
  obtain ⟨z_1, hz_1, hf⟩ := bnd hf
  refine g_cve (wf := (xw cI q)) (S := S) (rest := []) xw_adr hw (g_runV (rm := ({ frames := 0, cells := 0, slots := 0, locals := 0 } : Room)) (As := [.int x1]) (rest := []) C E hw F_X3_requireDream (ctX3_requireDream l (cI := cI) (D := D) (q := q) S x1 _ hz_1) km_X3_95 0 rfl rfl rfl hl.1 rfl (Nat.le_of_ble_eq_true rfl) ⟨(Nat.le_of_ble_eq_true rfl), (Nat.le_of_ble_eq_true rfl)⟩ ⟨(Nat.le_of_ble_eq_true rfl), (Nat.le_of_ble_eq_true rfl)⟩ dX3_recall_2) (fun H locs hw => ?_)
  refine lv_iload_n C.1 C.2.1 dX3_recall_5 rfl (lv_at hl 2 rfl) ?_
  refine lv_if_lt (tgt := 15) C.1 C.2.1 dX3_recall_6 (by decide) (fun hc => ?_) (fun hc => ?_)
  · have hf := ift hc hf
    cases hf
  · have hf := iff_ hc hf
    refine lv_iload_n C.1 C.2.1 dX3_recall_9 rfl (lv_at hl 2 rfl) ?_
    refine lv_bipush (v := 9) C.1 C.2.1 dX3_recall_10 (by decide) ?_
    refine lv_icmp_le (tgt := 25) C.1 C.2.1 dX3_recall_12 (by decide) (fun hc => ?_) (fun hc => ?_)
    · have hf := ift hc hf
      refine lv_aload_n C.1 C.2.1 dX3_recall_25 rfl (lv_at hl 0 rfl) ?_
      refine g_get C E hw inW3 0 rfl rfl 5 (by decide) kf_X3_37 rfl dX3_recall_26 ?_
      refine lv_iload_n C.1 C.2.1 dX3_recall_29 rfl (lv_at hl 1 rfl) ?_
      obtain ⟨v_2, hv_2, hf⟩ := bnd hf
      refine g_ald C E hw 6 rfl (ld_some hv_2) dX3_recall_30 ?_
      refine lv_istore_n (lv' := [(3, .int v_2), (0, .ref (q 0)), (1, .int x1), (2, .int x2)]) C.1 C.2.1 dX3_recall_31 rfl hl (by decide) rfl (fun ls hl => ?_)
      refine lv_aload_n C.1 C.2.1 dX3_recall_32 rfl (lv_at hl 1 rfl) ?_
      refine g_get C E hw inW3 0 rfl rfl 5 (by decide) kf_X3_37 rfl dX3_recall_33 ?_
      refine lv_iload_n C.1 C.2.1 dX3_recall_36 rfl (lv_at hl 2 rfl) ?_
      refine lv_iload_n C.1 C.2.1 dX3_recall_37 rfl (lv_at hl 3 rfl) ?_
      obtain ⟨S_3, hS_3, hf⟩ := bnd hf
      refine g_ast C E hw 6 rfl (sto_some hS_3).1 (ws' := (xw cI q) S_3) (by rw [← (sto_some hS_3).2]; rfl) dX3_recall_38 (fun H locs hw => ?_)
      refine lv_iload_n C.1 C.2.1 dX3_recall_39 rfl (lv_at hl 0 rfl) ?_
      exact g_iret C hw (Nat.le_of_ble_eq_true rfl) (Nat.le_of_ble_eq_true rfl) ⟨congrArg Prod.fst (Option.some.inj hf), congrArg Prod.snd (Option.some.inj hf)⟩ dX3_recall_40
    · have hf := iff_ hc hf
      cases hf
/-! DreamLedger.requireNights -/
def fX3_requireNights (S : St) (x1 : Int32) : Option Unit :=
  if x1 < 1 then
    none
  else
    if x1 ≤ 30 then
      some ()
    else
      none
set_option maxHeartbeats 4000000 in
set_option maxRecDepth 100000 in
theorem ctX3_requireNights (l : Launch) {D : va_G} {cI : ClassId} {q : Nat → Nat} (S : St) (x1 : Int32) (sz : Nat) {r1 : Unit} (hf : fX3_requireNights S x1 = some r1) : Met l yX3_requireNights (Cond.code yX3_requireNights cX3_requireNights 2 none :: XALL) ({ frames := 0, cells := 0, slots := 0, locals := 0 } : Room) (va_Pc [.ref (q 0), .int x1] (gPre D cI ((xw cI q) S) sz)) (gQv D (xw cI q) S (fun (u : St) => u = S) sz) 0 0 (va_A ((xw cI q) S) sz) := by
  unfold fX3_requireNights at hf
  refine Met.ofW (cc := cX3_requireNights) (maxL := 2) (ret := none) (by decide) rfl ?_
  intro p e s m args below meth c s₁ B hml hv
  obtain ⟨rfl, hg⟩ := hv
  have C : Ctx p s m _ meth c cX3_requireNights 2 RX3 none := Ctx.of B hml rfl
  obtain ⟨E, hw, hsz⟩ := g_start hg
  subst hsz
  have hl := lv_entry ([.ref (q 0), .int x1]) (n := 2) (Nat.le_of_ble_eq_true rfl)
  rw [lg_entry_eq]
  generalize (lg_sl ([.ref (q 0), .int x1]) ++ List.replicate (2 - (lg_sl ([.ref (q 0), .int x1])).length) Slot.unset).toArray = ls at hl ⊢
  have hl : lv_has ls 2 [(0, .ref (q 0)), (1, .int x1)] := hl
  refine lv_iload_n C.1 C.2.1 dX3_requireNights_0 rfl (lv_at hl 1 rfl) ?_
  refine lv_iconst (v := 1) C.1 C.2.1 dX3_requireNights_1 (by decide) ?_
  refine lv_icmp_lt (tgt := 11) C.1 C.2.1 dX3_requireNights_2 (by decide) (fun hc => ?_) (fun hc => ?_)
  · have hf := ift hc hf
    cases hf
  · have hf := iff_ hc hf
    refine lv_iload_n C.1 C.2.1 dX3_requireNights_5 rfl (lv_at hl 1 rfl) ?_
    refine lv_bipush (v := 30) C.1 C.2.1 dX3_requireNights_6 (by decide) ?_
    refine lv_icmp_le (tgt := 21) C.1 C.2.1 dX3_requireNights_8 (by decide) (fun hc => ?_) (fun hc => ?_)
    · have hf := ift hc hf
      exact g_vret C hw (Nat.le_of_ble_eq_true rfl) (Nat.le_of_ble_eq_true rfl) rfl dX3_requireNights_21
    · have hf := iff_ hc hf
      cases hf
/-! DreamLedger.ownTagsOfLatest -/
def fX3_ownTagsOfLatest (S : St) : Option Int32 :=
  if (S 12 0) = 0 then
    some 0
  else
    Option.bind (ld S 0 24 ((S 12 0) - 1)) fun v_1 =>
    some v_1
set_option maxHeartbeats 4000000 in
set_option maxRecDepth 100000 in
theorem ctX3_ownTagsOfLatest (l : Launch) {D : va_G} {cI : ClassId} {q : Nat → Nat} (S : St) (sz : Nat) {r1 : Int32} (hf : fX3_ownTagsOfLatest S = some r1) : Met l yX3_ownTagsOfLatest (Cond.code yX3_ownTagsOfLatest cX3_ownTagsOfLatest 1 (some .int) :: XALL) ({ frames := 0, cells := 0, slots := 0, locals := 0 } : Room) (va_Pc [.ref (q 0)] (gPre D cI ((xw cI q) S) sz)) (gQi D (xw cI q) S (fun (r : Int32) (u : St) => r = r1 ∧ u = S) sz) 0 0 (va_A ((xw cI q) S) sz) := by
  unfold fX3_ownTagsOfLatest at hf
  refine Met.ofW (cc := cX3_ownTagsOfLatest) (maxL := 1) (ret := (some .int)) (by decide) rfl ?_
  intro p e s m args below meth c s₁ B hml hv
  obtain ⟨rfl, hg⟩ := hv
  have C : Ctx p s m _ meth c cX3_ownTagsOfLatest 1 RX3 (some .int) := Ctx.of B hml rfl
  obtain ⟨E, hw, hsz⟩ := g_start hg
  subst hsz
  have hl := lv_entry ([.ref (q 0)]) (n := 1) (Nat.le_of_ble_eq_true rfl)
  rw [lg_entry_eq]
  generalize (lg_sl ([.ref (q 0)]) ++ List.replicate (1 - (lg_sl ([.ref (q 0)])).length) Slot.unset).toArray = ls at hl ⊢
  have hl : lv_has ls 1 [(0, .ref (q 0))] := hl
  refine lv_aload_n C.1 C.2.1 dX3_ownTagsOfLatest_0 rfl (lv_at hl 0 rfl) ?_
  refine g_get C E hw inW3 0 rfl rfl 7 (by decide) kf_X3_84 rfl dX3_ownTagsOfLatest_1 ?_
  refine lv_if_ne (tgt := 11) C.1 C.2.1 dX3_ownTagsOfLatest_4 (by decide) (fun hc => ?_) (fun hc => ?_)
  · have hf := iff_ hc hf
    refine lv_aload_n C.1 C.2.1 dX3_ownTagsOfLatest_11 rfl (lv_at hl 0 rfl) ?_
    refine g_get C E hw inW3 0 rfl rfl 3 (by decide) kf_X3_30 rfl dX3_ownTagsOfLatest_12 ?_
    refine lv_aload_n C.1 C.2.1 dX3_ownTagsOfLatest_15 rfl (lv_at hl 0 rfl) ?_
    refine g_get C E hw inW3 0 rfl rfl 7 (by decide) kf_X3_84 rfl dX3_ownTagsOfLatest_16 ?_
    refine lv_iconst (v := 1) C.1 C.2.1 dX3_ownTagsOfLatest_19 (by decide) ?_
    refine lv_isub C.1 C.2.1 dX3_ownTagsOfLatest_20 ?_
    obtain ⟨v_1, hv_1, hf⟩ := bnd hf
    refine g_ald C E hw 4 rfl (ld_some hv_1) dX3_ownTagsOfLatest_21 ?_
    exact g_iret C hw (Nat.le_of_ble_eq_true rfl) (Nat.le_of_ble_eq_true rfl) ⟨Option.some.inj hf, rfl⟩ dX3_ownTagsOfLatest_22
  · have hf := ift hc hf
    refine lv_iconst (v := 0) C.1 C.2.1 dX3_ownTagsOfLatest_7 (by decide) ?_
    refine lv_goto (tgt := 22) C.1 C.2.1 dX3_ownTagsOfLatest_8 (by decide) ?_
    exact g_iret C hw (Nat.le_of_ble_eq_true rfl) (Nat.le_of_ble_eq_true rfl) ⟨Option.some.inj hf, rfl⟩ dX3_ownTagsOfLatest_22
/-! DreamLedger.vividnessAfter -/
def fX3_vividnessAfter_19 (S : St) (x1 : Int32) (x2 : Int32) (t0 : Int32) : Option Int32 :=
  if t0 = 0 then
    Option.bind (ld S 2 24 x1) fun v_3 =>
    Option.bind (some (if 0 < (v_3 - x2) then (v_3 - x2) else 0)) fun v_4 =>
    some v_4
  else
    Option.bind (ld S 2 24 x1) fun v_5 =>
    some v_5
set_option maxHeartbeats 4000000 in
set_option maxRecDepth 100000 in
theorem wX3_vividnessAfter_19 {p : Program} {l : Launch} {e : Env} {s : State} {m : MethodId} {args : Array Value} {below : List Frame} {meth : Method} {c : Code} {D : va_G} {cI : ClassId} {q : Nat → Nat} (C : Ctx p s m args meth c cX3_vividnessAfter 4 RX3 (some .int)) (E : gE D cI s) {r1 : Int32} (S : St) : ∀ (x1 : Int32) (x2 : Int32) (t0 : Int32), fX3_vividnessAfter_19 S x1 x2 t0 = some r1 → ∀ (H : Heap) (locs : List Loc) (ls : Array Slot), gW D ((xw cI q) S) ((xw cI q) S) s H locs → lv_has ls 4 [(0, .ref (q 0)), (1, .int x1), (2, .int x2)] → W p l e ({ frames := 1, cells := 0, slots := 0, locals := 21 } : Room) s m args below meth c H locs 0 0 (MQ below (gQi D (xw cI q) S (fun (r : Int32) (u : St) => r = r1 ∧ u = S) s.heap.size) args s 0 0 (va_A ((xw cI q) S) s.heap.size)) (F0 m 19 ls [.int t0]) := by
  intro x1 x2 t0 hf H locs ls hw hl
  unfold fX3_vividnessAfter_19 at hf
  refine lv_istore_n (lv' := [(3, .int t0), (0, .ref (q 0)), (1, .int x1), (2, .int x2)]) C.1 C.2.1 dX3_vividnessAfter_19 rfl hl (by decide) rfl (fun ls hl => ?_)
  refine lv_iload_n C.1 C.2.1 dX3_vividnessAfter_20 rfl (lv_at hl 0 rfl) ?_
  refine lv_if_eq (tgt := 33) C.1 C.2.1 dX3_vividnessAfter_21 (by decide) (fun hc => ?_) (fun hc => ?_)
  · have hf := ift hc hf
    refine lv_iconst (v := 0) C.1 C.2.1 dX3_vividnessAfter_33 (by decide) ?_
    refine lv_aload_n C.1 C.2.1 dX3_vividnessAfter_34 rfl (lv_at hl 1 rfl) ?_
    refine g_get C E hw inW3 0 rfl rfl 5 (by decide) kf_X3_37 rfl dX3_vividnessAfter_35 ?_
    refine lv_iload_n C.1 C.2.1 dX3_vividnessAfter_38 rfl (lv_at hl 2 rfl) ?_
    obtain ⟨v_3, hv_3, hf⟩ := bnd hf
    refine g_ald C E hw 6 rfl (ld_some hv_3) dX3_vividnessAfter_39 ?_
    refine lv_iload_n C.1 C.2.1 dX3_vividnessAfter_40 rfl (lv_at hl 3 rfl) ?_
    refine lv_isub C.1 C.2.1 dX3_vividnessAfter_41 ?_
    obtain ⟨v_4, hv_4, hf⟩ := bnd hf
    refine va_mmax C.1 C.2.1 (C.2.2.1.trans hl.1.symm) C.2.2.2.1 (C.2.2.2.2.1 _ km_X3_236) (C.2.2.2.2.1 _ kt_yJ9_max_7cf53) (C.2.2.2.2.1 _ kz_J9) (C.2.2.2.2.1 _ kc_yJ9_max_7cf53) (Nat.le_of_ble_eq_true rfl) (Nat.le_of_ble_eq_true rfl) (Nat.le_of_ble_eq_true rfl) (Nat.le_of_ble_eq_true rfl) dX3_vividnessAfter_42 ?_
    refine topi_b hv_4 ?_
    exact g_iret C hw (Nat.le_of_ble_eq_true rfl) (Nat.le_of_ble_eq_true rfl) ⟨Option.some.inj hf, rfl⟩ dX3_vividnessAfter_45
  · have hf := iff_ hc hf
    refine lv_aload_n C.1 C.2.1 dX3_vividnessAfter_24 rfl (lv_at hl 1 rfl) ?_
    refine g_get C E hw inW3 0 rfl rfl 5 (by decide) kf_X3_37 rfl dX3_vividnessAfter_25 ?_
    refine lv_iload_n C.1 C.2.1 dX3_vividnessAfter_28 rfl (lv_at hl 2 rfl) ?_
    obtain ⟨v_5, hv_5, hf⟩ := bnd hf
    refine g_ald C E hw 6 rfl (ld_some hv_5) dX3_vividnessAfter_29 ?_
    refine lv_goto (tgt := 45) C.1 C.2.1 dX3_vividnessAfter_30 (by decide) ?_
    exact g_iret C hw (Nat.le_of_ble_eq_true rfl) (Nat.le_of_ble_eq_true rfl) ⟨Option.some.inj hf, rfl⟩ dX3_vividnessAfter_45
def fX3_vividnessAfter (S : St) (x1 : Int32) (x2 : Int32) : Option Int32 :=
  Option.bind (ld S 0 24 x1) fun v_1 =>
  Option.bind (fX3_ownTagsOfLatest S) fun v_2 =>
  if (v_1 &&& v_2) = 0 then
    fX3_vividnessAfter_19 S x1 x2 0
  else
    fX3_vividnessAfter_19 S x1 x2 1
set_option maxHeartbeats 4000000 in
set_option maxRecDepth 100000 in
theorem ctX3_vividnessAfter (l : Launch) {D : va_G} {cI : ClassId} {q : Nat → Nat} (S : St) (x1 : Int32) (x2 : Int32) (sz : Nat) {r1 : Int32} (hf : fX3_vividnessAfter S x1 x2 = some r1) : Met l yX3_vividnessAfter (Cond.code yX3_vividnessAfter cX3_vividnessAfter 4 (some .int) :: XALL) ({ frames := 1, cells := 0, slots := 0, locals := 21 } : Room) (va_Pc [.ref (q 0), .int x1, .int x2] (gPre D cI ((xw cI q) S) sz)) (gQi D (xw cI q) S (fun (r : Int32) (u : St) => r = r1 ∧ u = S) sz) 0 0 (va_A ((xw cI q) S) sz) := by
  unfold fX3_vividnessAfter at hf
  refine Met.ofW (cc := cX3_vividnessAfter) (maxL := 4) (ret := (some .int)) (by decide) rfl ?_
  intro p e s m args below meth c s₁ B hml hv
  obtain ⟨rfl, hg⟩ := hv
  have C : Ctx p s m _ meth c cX3_vividnessAfter 4 RX3 (some .int) := Ctx.of B hml rfl
  obtain ⟨E, hw, hsz⟩ := g_start hg
  subst hsz
  have hl := lv_entry ([.ref (q 0), .int x1, .int x2]) (n := 4) (Nat.le_of_ble_eq_true rfl)
  rw [lg_entry_eq]
  generalize (lg_sl ([.ref (q 0), .int x1, .int x2]) ++ List.replicate (4 - (lg_sl ([.ref (q 0), .int x1, .int x2])).length) Slot.unset).toArray = ls at hl ⊢
  have hl : lv_has ls 4 [(0, .ref (q 0)), (1, .int x1), (2, .int x2)] := hl
  refine lv_aload_n C.1 C.2.1 dX3_vividnessAfter_0 rfl (lv_at hl 0 rfl) ?_
  refine g_get C E hw inW3 0 rfl rfl 3 (by decide) kf_X3_30 rfl dX3_vividnessAfter_1 ?_
  refine lv_iload_n C.1 C.2.1 dX3_vividnessAfter_4 rfl (lv_at hl 1 rfl) ?_
  obtain ⟨v_1, hv_1, hf⟩ := bnd hf
  refine g_ald C E hw 4 rfl (ld_some hv_1) dX3_vividnessAfter_5 ?_
  refine lv_aload_n C.1 C.2.1 dX3_vividnessAfter_6 rfl (lv_at hl 0 rfl) ?_
  obtain ⟨v_2, hv_2, hf⟩ := bnd hf
  refine g_cie (wf := (xw cI q)) (S := S) (rest := [.int v_1]) xw_adr hw (g_runV (rm := ({ frames := 0, cells := 0, slots := 0, locals := 0 } : Room)) (As := []) (rest := [.int v_1]) C E hw F_X3_ownTagsOfLatest (ctX3_ownTagsOfLatest l (cI := cI) (D := D) (q := q) S  _ hv_2) km_X3_233 0 rfl rfl rfl hl.1 rfl (Nat.le_of_ble_eq_true rfl) ⟨(Nat.le_of_ble_eq_true rfl), (Nat.le_of_ble_eq_true rfl)⟩ ⟨(Nat.le_of_ble_eq_true rfl), (Nat.le_of_ble_eq_true rfl)⟩ dX3_vividnessAfter_7) (fun H locs hw => ?_)
  refine lv_iand C.1 C.2.1 dX3_vividnessAfter_10 ?_
  refine lv_if_eq (tgt := 18) C.1 C.2.1 dX3_vividnessAfter_11 (by decide) (fun hc => ?_) (fun hc => ?_)
  · have hf := ift hc hf
    refine lv_iconst (v := 0) C.1 C.2.1 dX3_vividnessAfter_18 (by decide) ?_
    exact wX3_vividnessAfter_19 C E S x1 x2 0 hf _ _ _ hw (lv_sub hl [0, 1, 2] rfl)
  · have hf := iff_ hc hf
    refine lv_iconst (v := 1) C.1 C.2.1 dX3_vividnessAfter_14 (by decide) ?_
    refine lv_goto (tgt := 19) C.1 C.2.1 dX3_vividnessAfter_15 (by decide) ?_
    exact wX3_vividnessAfter_19 C E S x1 x2 1 hf _ _ _ hw (lv_sub hl [0, 1, 2] rfl)
/-! DreamLedger.countFadedAfter -/
def fX3_countFadedAfter_4 (S : St) (x1 : Int32) : Nat → Int32 → Int32 → Option Int32
  | 0, _, _ => none
  | n + 1, x2, x3 =>
    if (S 12 0) ≤ x3 then
      some x2
    else
      Option.bind (fX3_vividnessAfter S x3 x1) fun v_1 =>
      if v_1 = 0 then
        Option.bind (some (x2 + 1)) fun x2_3 =>
        Option.bind (some (x3 + 1)) fun x3_4 =>
        fX3_countFadedAfter_4 S x1 n x2_3 x3_4
      else
        Option.bind (some (x3 + 1)) fun x3_2 =>
        fX3_countFadedAfter_4 S x1 n x2 x3_2
set_option maxHeartbeats 4000000 in
set_option maxRecDepth 100000 in
theorem wX3_countFadedAfter_4 {p : Program} {l : Launch} {e : Env} {s : State} {m : MethodId} {args : Array Value} {below : List Frame} {meth : Method} {c : Code} {D : va_G} {cI : ClassId} {q : Nat → Nat} (C : Ctx p s m args meth c cX3_countFadedAfter 4 RX3 (some .int)) (E : gE D cI s) {r1 : Int32} (S : St) (x1 : Int32) : ∀ (n : Nat) (x2 : Int32) (x3 : Int32), fX3_countFadedAfter_4 S x1 n x2 x3 = some r1 → ∀ (H : Heap) (locs : List Loc) (ls : Array Slot), gW D ((xw cI q) S) ((xw cI q) S) s H locs → lv_has ls 4 [(0, .ref (q 0)), (1, .int x1), (2, .int x2), (3, .int x3)] → W p l e ({ frames := 2, cells := 0, slots := 0, locals := 44 } : Room) s m args below meth c H locs 0 0 (MQ below (gQi D (xw cI q) S (fun (r : Int32) (u : St) => r = r1 ∧ u = S) s.heap.size) args s 0 0 (va_A ((xw cI q) S) s.heap.size)) (F0 m 4 ls []) := by
  intro n
  induction n with
  | zero => intro x2 x3 hf; rw [fX3_countFadedAfter_4] at hf; cases hf
  | succ n ih =>
    intro x2 x3 hf H locs ls hw hl
    rw [fX3_countFadedAfter_4] at hf
    refine lv_iload_n C.1 C.2.1 dX3_countFadedAfter_4 rfl (lv_at hl 3 rfl) ?_
    refine lv_aload_n C.1 C.2.1 dX3_countFadedAfter_5 rfl (lv_at hl 0 rfl) ?_
    refine g_get C E hw inW3 0 rfl rfl 7 (by decide) kf_X3_84 rfl dX3_countFadedAfter_6 ?_
    refine lv_icmp_ge (tgt := 30) C.1 C.2.1 dX3_countFadedAfter_9 (by decide) (fun hc => ?_) (fun hc => ?_)
    · have hf := ift hc hf
      refine lv_iload_n C.1 C.2.1 dX3_countFadedAfter_30 rfl (lv_at hl 2 rfl) ?_
      exact g_iret C hw (Nat.le_of_ble_eq_true rfl) (Nat.le_of_ble_eq_true rfl) ⟨Option.some.inj hf, rfl⟩ dX3_countFadedAfter_31
    · have hf := iff_ hc hf
      refine lv_aload_n C.1 C.2.1 dX3_countFadedAfter_12 rfl (lv_at hl 0 rfl) ?_
      refine lv_iload_n C.1 C.2.1 dX3_countFadedAfter_13 rfl (lv_at hl 3 rfl) ?_
      refine lv_iload_n C.1 C.2.1 dX3_countFadedAfter_14 rfl (lv_at hl 1 rfl) ?_
      obtain ⟨v_1, hv_1, hf⟩ := bnd hf
      refine g_cie (wf := (xw cI q)) (S := S) (rest := []) xw_adr hw (g_runV (rm := ({ frames := 1, cells := 0, slots := 0, locals := 21 } : Room)) (As := [.int x3, .int x1]) (rest := []) C E hw F_X3_vividnessAfter (ctX3_vividnessAfter l (cI := cI) (D := D) (q := q) S x3 x1 _ hv_1) km_X3_118 0 rfl rfl rfl hl.1 rfl (Nat.le_of_ble_eq_true rfl) ⟨(Nat.le_of_ble_eq_true rfl), (Nat.le_of_ble_eq_true rfl)⟩ ⟨(Nat.le_of_ble_eq_true rfl), (Nat.le_of_ble_eq_true rfl)⟩ dX3_countFadedAfter_15) (fun H locs hw => ?_)
      refine lv_if_ne (tgt := 24) C.1 C.2.1 dX3_countFadedAfter_18 (by decide) (fun hc => ?_) (fun hc => ?_)
      · have hf := iff_ hc hf
        obtain ⟨x3_2, hx3_2, hf⟩ := bnd hf
        refine lv_iinc (v := x3_2) (lv' := [(3, .int x3_2), (0, .ref (q 0)), (1, .int x1), (2, .int x2)]) C.1 C.2.1 dX3_countFadedAfter_24 hl (k := 3) rfl (inc1 hx3_2) (by decide) rfl (fun ls hl => ?_)
        refine lv_goto (tgt := 4) C.1 C.2.1 dX3_countFadedAfter_27 (by decide) ?_
        exact ih x2 x3_2 hf _ _ _ hw (lv_sub hl [1, 2, 3, 0] rfl)
      · have hf := ift hc hf
        obtain ⟨x2_3, hx2_3, hf⟩ := bnd hf
        refine lv_iinc (v := x2_3) (lv' := [(2, .int x2_3), (0, .ref (q 0)), (1, .int x1), (3, .int x3)]) C.1 C.2.1 dX3_countFadedAfter_21 hl (k := 2) rfl (inc1 hx2_3) (by decide) rfl (fun ls hl => ?_)
        obtain ⟨x3_4, hx3_4, hf⟩ := bnd hf
        refine lv_iinc (v := x3_4) (lv' := [(3, .int x3_4), (2, .int x2_3), (0, .ref (q 0)), (1, .int x1)]) C.1 C.2.1 dX3_countFadedAfter_24 hl (k := 3) rfl (inc1 hx3_4) (by decide) rfl (fun ls hl => ?_)
        refine lv_goto (tgt := 4) C.1 C.2.1 dX3_countFadedAfter_27 (by decide) ?_
        exact ih x2_3 x3_4 hf _ _ _ hw (lv_sub hl [2, 3, 1, 0] rfl)
def fX3_countFadedAfter (S : St) (x1 : Int32) : Option Int32 :=
  fX3_countFadedAfter_4 S x1 100 0 0
set_option maxHeartbeats 4000000 in
set_option maxRecDepth 100000 in
theorem ctX3_countFadedAfter (l : Launch) {D : va_G} {cI : ClassId} {q : Nat → Nat} (S : St) (x1 : Int32) (sz : Nat) {r1 : Int32} (hf : fX3_countFadedAfter S x1 = some r1) : Met l yX3_countFadedAfter (Cond.code yX3_countFadedAfter cX3_countFadedAfter 4 (some .int) :: XALL) ({ frames := 2, cells := 0, slots := 0, locals := 44 } : Room) (va_Pc [.ref (q 0), .int x1] (gPre D cI ((xw cI q) S) sz)) (gQi D (xw cI q) S (fun (r : Int32) (u : St) => r = r1 ∧ u = S) sz) 0 0 (va_A ((xw cI q) S) sz) := by
  unfold fX3_countFadedAfter at hf
  refine Met.ofW (cc := cX3_countFadedAfter) (maxL := 4) (ret := (some .int)) (by decide) rfl ?_
  intro p e s m args below meth c s₁ B hml hv
  obtain ⟨rfl, hg⟩ := hv
  have C : Ctx p s m _ meth c cX3_countFadedAfter 4 RX3 (some .int) := Ctx.of B hml rfl
  obtain ⟨E, hw, hsz⟩ := g_start hg
  subst hsz
  have hl := lv_entry ([.ref (q 0), .int x1]) (n := 4) (Nat.le_of_ble_eq_true rfl)
  rw [lg_entry_eq]
  generalize (lg_sl ([.ref (q 0), .int x1]) ++ List.replicate (4 - (lg_sl ([.ref (q 0), .int x1])).length) Slot.unset).toArray = ls at hl ⊢
  have hl : lv_has ls 4 [(0, .ref (q 0)), (1, .int x1)] := hl
  refine lv_iconst (v := 0) C.1 C.2.1 dX3_countFadedAfter_0 (by decide) ?_
  refine lv_istore_n (lv' := [(2, .int 0), (0, .ref (q 0)), (1, .int x1)]) C.1 C.2.1 dX3_countFadedAfter_1 rfl hl (by decide) rfl (fun ls hl => ?_)
  refine lv_iconst (v := 0) C.1 C.2.1 dX3_countFadedAfter_2 (by decide) ?_
  refine lv_istore_n (lv' := [(3, .int 0), (2, .int 0), (0, .ref (q 0)), (1, .int x1)]) C.1 C.2.1 dX3_countFadedAfter_3 rfl hl (by decide) rfl (fun ls hl => ?_)
  exact wX3_countFadedAfter_4 C E S x1 100 0 0 hf _ _ _ hw (lv_sub hl [2, 3, 1, 0] rfl)
/-! DreamLedger.passNights -/
def fX3_passNights_7 (x1 : Int32) : Nat → St → Int32 → Option (Int32 × St)
  | 0, _, _ => none
  | n + 1, S, x2 =>
    if (S 12 0) ≤ x2 then
      Option.bind (some (up S 13 0 ((S 13 0) + x1))) fun S_2 =>
      Option.bind (fX3_countFadedAfter S_2 0) fun v_3 =>
      some (v_3, S_2)
    else
      Option.bind (fX3_vividnessAfter S x2 x1) fun v_4 =>
      Option.bind (sto S 2 24 x2 v_4) fun S_5 =>
      Option.bind (some (x2 + 1)) fun x2_6 =>
      fX3_passNights_7 x1 n S_5 x2_6
set_option maxHeartbeats 4000000 in
set_option maxRecDepth 100000 in
theorem wX3_passNights_7 {p : Program} {l : Launch} {e : Env} {s : State} {m : MethodId} {args : Array Value} {below : List Frame} {meth : Method} {c : Code} {D : va_G} {cI : ClassId} {q : Nat → Nat} (C : Ctx p s m args meth c cX3_passNights 3 RX3 (some .int)) (E : gE D cI s) {S0 : St} {r1 : Int32} {S1 : St} (x1 : Int32) : ∀ (n : Nat) (S : St) (x2 : Int32), fX3_passNights_7 x1 n S x2 = some (r1, S1) → ∀ (H : Heap) (locs : List Loc) (ls : Array Slot), gW D ((xw cI q) S0) ((xw cI q) S) s H locs → lv_has ls 3 [(0, .ref (q 0)), (1, .int x1), (2, .int x2)] → W p l e ({ frames := 3, cells := 0, slots := 0, locals := 67 } : Room) s m args below meth c H locs 0 0 (MQ below (gQi D (xw cI q) S0 (fun (r : Int32) (u : St) => r = r1 ∧ u = S1) s.heap.size) args s 0 0 (va_A ((xw cI q) S0) s.heap.size)) (F0 m 7 ls []) := by
  intro n
  induction n with
  | zero => intro S x2 hf; rw [fX3_passNights_7] at hf; cases hf
  | succ n ih =>
    intro S x2 hf H locs ls hw hl
    rw [fX3_passNights_7] at hf
    refine lv_iload_n C.1 C.2.1 dX3_passNights_7 rfl (lv_at hl 2 rfl) ?_
    refine lv_aload_n C.1 C.2.1 dX3_passNights_8 rfl (lv_at hl 0 rfl) ?_
    refine g_get C E hw inW3 0 rfl rfl 7 (by decide) kf_X3_84 rfl dX3_passNights_9 ?_
    refine lv_icmp_ge (tgt := 33) C.1 C.2.1 dX3_passNights_12 (by decide) (fun hc => ?_) (fun hc => ?_)
    · have hf := ift hc hf
      refine lv_aload_n C.1 C.2.1 dX3_passNights_33 rfl (lv_at hl 0 rfl) ?_
      refine lv_dup C.1 C.2.1 dX3_passNights_34 rfl ?_
      refine g_get C E hw inW3 0 rfl rfl 8 (by decide) kf_X3_89 rfl dX3_passNights_35 ?_
      refine lv_iload_n C.1 C.2.1 dX3_passNights_38 rfl (lv_at hl 1 rfl) ?_
      refine lv_iadd C.1 C.2.1 dX3_passNights_39 ?_
      obtain ⟨S_2, hS_2, hf⟩ := bnd hf
      refine g_put C E hw inW3 tyX3 tyX3_ok nmX3 0 rfl rfl 8 (by decide) kf_X3_89 rfl (by decide +kernel) (Nat.le_of_ble_eq_true rfl) (ws' := (xw cI q) S_2) (by rw [← Option.some.inj hS_2]; rfl) dX3_passNights_40 (fun H locs hw => ?_)
      refine lv_aload_n C.1 C.2.1 dX3_passNights_43 rfl (lv_at hl 0 rfl) ?_
      refine lv_iconst (v := 0) C.1 C.2.1 dX3_passNights_44 (by decide) ?_
      obtain ⟨v_3, hv_3, hf⟩ := bnd hf
      refine g_cie (wf := (xw cI q)) (S := S_2) (rest := []) xw_adr hw (g_runV (rm := ({ frames := 2, cells := 0, slots := 0, locals := 44 } : Room)) (As := [.int 0]) (rest := []) C E hw F_X3_countFadedAfter (ctX3_countFadedAfter l (cI := cI) (D := D) (q := q) S_2 0 _ hv_3) km_X3_122 0 rfl rfl rfl hl.1 rfl (Nat.le_of_ble_eq_true rfl) ⟨(Nat.le_of_ble_eq_true rfl), (Nat.le_of_ble_eq_true rfl)⟩ ⟨(Nat.le_of_ble_eq_true rfl), (Nat.le_of_ble_eq_true rfl)⟩ dX3_passNights_45) (fun H locs hw => ?_)
      exact g_iret C hw (Nat.le_of_ble_eq_true rfl) (Nat.le_of_ble_eq_true rfl) ⟨congrArg Prod.fst (Option.some.inj hf), congrArg Prod.snd (Option.some.inj hf)⟩ dX3_passNights_48
    · have hf := iff_ hc hf
      refine lv_aload_n C.1 C.2.1 dX3_passNights_15 rfl (lv_at hl 0 rfl) ?_
      refine g_get C E hw inW3 0 rfl rfl 5 (by decide) kf_X3_37 rfl dX3_passNights_16 ?_
      refine lv_iload_n C.1 C.2.1 dX3_passNights_19 rfl (lv_at hl 2 rfl) ?_
      refine lv_aload_n C.1 C.2.1 dX3_passNights_20 rfl (lv_at hl 0 rfl) ?_
      refine lv_iload_n C.1 C.2.1 dX3_passNights_21 rfl (lv_at hl 2 rfl) ?_
      refine lv_iload_n C.1 C.2.1 dX3_passNights_22 rfl (lv_at hl 1 rfl) ?_
      obtain ⟨v_4, hv_4, hf⟩ := bnd hf
      refine g_cie (wf := (xw cI q)) (S := S) (rest := [.int x2, .ref (q 6)]) xw_adr hw (g_runV (rm := ({ frames := 1, cells := 0, slots := 0, locals := 21 } : Room)) (As := [.int x2, .int x1]) (rest := [.int x2, .ref (q 6)]) C E hw F_X3_vividnessAfter (ctX3_vividnessAfter l (cI := cI) (D := D) (q := q) S x2 x1 _ hv_4) km_X3_118 0 rfl rfl rfl hl.1 rfl (Nat.le_of_ble_eq_true rfl) ⟨(Nat.le_of_ble_eq_true rfl), (Nat.le_of_ble_eq_true rfl)⟩ ⟨(Nat.le_of_ble_eq_true rfl), (Nat.le_of_ble_eq_true rfl)⟩ dX3_passNights_23) (fun H locs hw => ?_)
      obtain ⟨S_5, hS_5, hf⟩ := bnd hf
      refine g_ast C E hw 6 rfl (sto_some hS_5).1 (ws' := (xw cI q) S_5) (by rw [← (sto_some hS_5).2]; rfl) dX3_passNights_26 (fun H locs hw => ?_)
      obtain ⟨x2_6, hx2_6, hf⟩ := bnd hf
      refine lv_iinc (v := x2_6) (lv' := [(2, .int x2_6), (0, .ref (q 0)), (1, .int x1)]) C.1 C.2.1 dX3_passNights_27 hl (k := 2) rfl (inc1 hx2_6) (by decide) rfl (fun ls hl => ?_)
      refine lv_goto (tgt := 7) C.1 C.2.1 dX3_passNights_30 (by decide) ?_
      exact ih S_5 x2_6 hf _ _ _ hw (lv_sub hl [1, 2, 0] rfl)
def fX3_passNights (S : St) (x1 : Int32) : Option (Int32 × St) :=
  Option.bind (fX3_requireNights S x1) fun z_1 =>
  fX3_passNights_7 x1 100 S 0
set_option maxHeartbeats 4000000 in
set_option maxRecDepth 100000 in
theorem ctX3_passNights (l : Launch) {D : va_G} {cI : ClassId} {q : Nat → Nat} (S : St) (x1 : Int32) (sz : Nat) {r1 : Int32} {S1 : St} (hf : fX3_passNights S x1 = some (r1, S1)) : Met l yX3_passNights (Cond.code yX3_passNights cX3_passNights 3 (some .int) :: XALL) ({ frames := 3, cells := 0, slots := 0, locals := 67 } : Room) (va_Pc [.ref (q 0), .int x1] (gPre D cI ((xw cI q) S) sz)) (gQi D (xw cI q) S (fun (r : Int32) (u : St) => r = r1 ∧ u = S1) sz) 0 0 (va_A ((xw cI q) S) sz) := by
  unfold fX3_passNights at hf
  refine Met.ofW (cc := cX3_passNights) (maxL := 3) (ret := (some .int)) (by decide) rfl ?_
  intro p e s m args below meth c s₁ B hml hv
  obtain ⟨rfl, hg⟩ := hv
  have C : Ctx p s m _ meth c cX3_passNights 3 RX3 (some .int) := Ctx.of B hml rfl
  obtain ⟨E, hw, hsz⟩ := g_start hg
  subst hsz
  have hl := lv_entry ([.ref (q 0), .int x1]) (n := 3) (Nat.le_of_ble_eq_true rfl)
  rw [lg_entry_eq]
  generalize (lg_sl ([.ref (q 0), .int x1]) ++ List.replicate (3 - (lg_sl ([.ref (q 0), .int x1])).length) Slot.unset).toArray = ls at hl ⊢
  have hl : lv_has ls 3 [(0, .ref (q 0)), (1, .int x1)] := hl
  refine lv_aload_n C.1 C.2.1 dX3_passNights_0 rfl (lv_at hl 0 rfl) ?_
  refine lv_iload_n C.1 C.2.1 dX3_passNights_1 rfl (lv_at hl 1 rfl) ?_
  obtain ⟨z_1, hz_1, hf⟩ := bnd hf
  refine g_cve (wf := (xw cI q)) (S := S) (rest := []) xw_adr hw (g_runV (rm := ({ frames := 0, cells := 0, slots := 0, locals := 0 } : Room)) (As := [.int x1]) (rest := []) C E hw F_X3_requireNights (ctX3_requireNights l (cI := cI) (D := D) (q := q) S x1 _ hz_1) km_X3_115 0 rfl rfl rfl hl.1 rfl (Nat.le_of_ble_eq_true rfl) ⟨(Nat.le_of_ble_eq_true rfl), (Nat.le_of_ble_eq_true rfl)⟩ ⟨(Nat.le_of_ble_eq_true rfl), (Nat.le_of_ble_eq_true rfl)⟩ dX3_passNights_2) (fun H locs hw => ?_)
  refine lv_iconst (v := 0) C.1 C.2.1 dX3_passNights_5 (by decide) ?_
  refine lv_istore_n (lv' := [(2, .int 0), (0, .ref (q 0)), (1, .int x1)]) C.1 C.2.1 dX3_passNights_6 rfl hl (by decide) rfl (fun ls hl => ?_)
  exact wX3_passNights_7 C E x1 100 S 0 hf _ _ _ hw (lv_sub hl [1, 2, 0] rfl)
/-! DreamLedger.requireRoomForTerm -/
def fX3_requireRoomForTerm (S : St) : Option Unit :=
  if (S 15 0) < 20 then
    some ()
  else
    none
set_option maxHeartbeats 4000000 in
set_option maxRecDepth 100000 in
theorem ctX3_requireRoomForTerm (l : Launch) {D : va_G} {cI : ClassId} {q : Nat → Nat} (S : St) (sz : Nat) {r1 : Unit} (hf : fX3_requireRoomForTerm S = some r1) : Met l yX3_requireRoomForTerm (Cond.code yX3_requireRoomForTerm cX3_requireRoomForTerm 1 none :: XALL) ({ frames := 0, cells := 0, slots := 0, locals := 0 } : Room) (va_Pc [.ref (q 0)] (gPre D cI ((xw cI q) S) sz)) (gQv D (xw cI q) S (fun (u : St) => u = S) sz) 0 0 (va_A ((xw cI q) S) sz) := by
  unfold fX3_requireRoomForTerm at hf
  refine Met.ofW (cc := cX3_requireRoomForTerm) (maxL := 1) (ret := none) (by decide) rfl ?_
  intro p e s m args below meth c s₁ B hml hv
  obtain ⟨rfl, hg⟩ := hv
  have C : Ctx p s m _ meth c cX3_requireRoomForTerm 1 RX3 none := Ctx.of B hml rfl
  obtain ⟨E, hw, hsz⟩ := g_start hg
  subst hsz
  have hl := lv_entry ([.ref (q 0)]) (n := 1) (Nat.le_of_ble_eq_true rfl)
  rw [lg_entry_eq]
  generalize (lg_sl ([.ref (q 0)]) ++ List.replicate (1 - (lg_sl ([.ref (q 0)])).length) Slot.unset).toArray = ls at hl ⊢
  have hl : lv_has ls 1 [(0, .ref (q 0))] := hl
  refine lv_aload_n C.1 C.2.1 dX3_requireRoomForTerm_0 rfl (lv_at hl 0 rfl) ?_
  refine g_get C E hw inW3 0 rfl rfl 1 (by decide) kf_X3_19 rfl dX3_requireRoomForTerm_1 ?_
  refine g_getN C E hw inW2 2 rfl rfl 4 (by decide) kfN_X3_135 rfl dX3_requireRoomForTerm_4 ?_
  refine lv_bipush (v := 20) C.1 C.2.1 dX3_requireRoomForTerm_7 (by decide) ?_
  refine lv_icmp_lt (tgt := 22) C.1 C.2.1 dX3_requireRoomForTerm_9 (by decide) (fun hc => ?_) (fun hc => ?_)
  · have hf := ift hc hf
    exact g_vret C hw (Nat.le_of_ble_eq_true rfl) (Nat.le_of_ble_eq_true rfl) rfl dX3_requireRoomForTerm_22
  · have hf := iff_ hc hf
    cases hf
/-! DreamLedger.addTerm -/
def fX3_addTerm (S : St) (x1 : Int32) (x2 : Int32) (x3 : Int32) : Option (Int32 × St) :=
  Option.bind (fX2_add S x1 x2 x3) fun u_3 => pr u_3 fun v_1 S_2 =>
  Option.bind (fX3_rematchTerms S_2) fun S_4 =>
  some (v_1, S_4)
set_option maxHeartbeats 4000000 in
set_option maxRecDepth 100000 in
theorem ctX3_addTerm (l : Launch) {D : va_G} {cI : ClassId} {q : Nat → Nat} (S : St) (x1 : Int32) (x2 : Int32) (x3 : Int32) (sz : Nat) {r1 : Int32} {S1 : St} (hf : fX3_addTerm S x1 x2 x3 = some (r1, S1)) : Met l yX3_addTerm (Cond.code yX3_addTerm cX3_addTerm 5 (some .int) :: XALL) ({ frames := 3, cells := 0, slots := 0, locals := 67 } : Room) (va_Pc [.ref (q 0), .int x1, .int x2, .int x3] (gPre D cI ((xw cI q) S) sz)) (gQi D (xw cI q) S (fun (r : Int32) (u : St) => r = r1 ∧ u = S1) sz) 0 0 (va_A ((xw cI q) S) sz) := by
  unfold fX3_addTerm at hf
  refine Met.ofW (cc := cX3_addTerm) (maxL := 5) (ret := (some .int)) (by decide) rfl ?_
  intro p e s m args below meth c s₁ B hml hv
  obtain ⟨rfl, hg⟩ := hv
  have C : Ctx p s m _ meth c cX3_addTerm 5 RX3 (some .int) := Ctx.of B hml rfl
  obtain ⟨E, hw, hsz⟩ := g_start hg
  subst hsz
  have hl := lv_entry ([.ref (q 0), .int x1, .int x2, .int x3]) (n := 5) (Nat.le_of_ble_eq_true rfl)
  rw [lg_entry_eq]
  generalize (lg_sl ([.ref (q 0), .int x1, .int x2, .int x3]) ++ List.replicate (5 - (lg_sl ([.ref (q 0), .int x1, .int x2, .int x3])).length) Slot.unset).toArray = ls at hl ⊢
  have hl : lv_has ls 5 [(0, .ref (q 0)), (1, .int x1), (2, .int x2), (3, .int x3)] := hl
  refine lv_aload_n C.1 C.2.1 dX3_addTerm_0 rfl (lv_at hl 0 rfl) ?_
  refine g_get C E hw inW3 0 rfl rfl 1 (by decide) kf_X3_19 rfl dX3_addTerm_1 ?_
  refine lv_iload_n C.1 C.2.1 dX3_addTerm_4 rfl (lv_at hl 1 rfl) ?_
  refine lv_iload_n C.1 C.2.1 dX3_addTerm_5 rfl (lv_at hl 2 rfl) ?_
  refine lv_iload_n C.1 C.2.1 dX3_addTerm_6 rfl (lv_at hl 3 rfl) ?_
  obtain ⟨⟨v_1, S_2⟩, hu_3, hf⟩ := bnd hf
  have hf := pr_r hf
  refine g_cie (wf := (xw cI q)) (S := S) (rest := []) xw_adr hw (g_runVN (rm := ({ frames := 0, cells := 0, slots := 0, locals := 0 } : Room)) (As := [.int x1, .int x2, .int x3]) (rest := []) C E hw F_X2_add (ctX2_add l (cI := cI) (D := D) (q := q) S x1 x2 x3 _ hu_3) kmN_X3_218 2 rfl rfl rfl hl.1 rfl (Nat.le_of_ble_eq_true rfl) ⟨(Nat.le_of_ble_eq_true rfl), (Nat.le_of_ble_eq_true rfl)⟩ ⟨(Nat.le_of_ble_eq_true rfl), (Nat.le_of_ble_eq_true rfl)⟩ dX3_addTerm_7) (fun H locs hw => ?_)
  refine lv_istore (lv' := [(4, .int v_1), (0, .ref (q 0)), (1, .int x1), (2, .int x2), (3, .int x3)]) C.1 C.2.1 dX3_addTerm_10 hl (by decide) rfl (fun ls hl => ?_)
  refine lv_aload_n C.1 C.2.1 dX3_addTerm_12 rfl (lv_at hl 1 rfl) ?_
  obtain ⟨S_4, hS_4, hf⟩ := bnd hf
  refine g_cve (wf := (xw cI q)) (S := S_2) (rest := []) xw_adr hw (g_runV (rm := ({ frames := 2, cells := 0, slots := 0, locals := 46 } : Room)) (As := []) (rest := []) C E hw F_X3_rematchTerms (ctX3_rematchTerms l (cI := cI) (D := D) (q := q) S_2  _ hS_4) km_X3_215 0 rfl rfl rfl hl.1 rfl (Nat.le_of_ble_eq_true rfl) ⟨(Nat.le_of_ble_eq_true rfl), (Nat.le_of_ble_eq_true rfl)⟩ ⟨(Nat.le_of_ble_eq_true rfl), (Nat.le_of_ble_eq_true rfl)⟩ dX3_addTerm_13) (fun H locs hw => ?_)
  refine lv_iload C.1 C.2.1 dX3_addTerm_16 (lv_at hl 0 rfl) ?_
  exact g_iret C hw (Nat.le_of_ble_eq_true rfl) (Nat.le_of_ble_eq_true rfl) ⟨congrArg Prod.fst (Option.some.inj hf), congrArg Prod.snd (Option.some.inj hf)⟩ dX3_addTerm_18
/-! DreamLedger.addTagTerm -/
def fX3_addTagTerm (S : St) (x1 : Int32) : Option (Int32 × St) :=
  Option.bind (fX3_requireTag S x1) fun z_1 =>
  Option.bind (fX3_requireRoomForTerm S) fun z_2 =>
  Option.bind (fX3_addTerm S 0 x1 x1) fun u_5 => pr u_5 fun v_3 S_4 =>
  some (v_3, S_4)
set_option maxHeartbeats 4000000 in
set_option maxRecDepth 100000 in
theorem ctX3_addTagTerm (l : Launch) {D : va_G} {cI : ClassId} {q : Nat → Nat} (S : St) (x1 : Int32) (sz : Nat) {r1 : Int32} {S1 : St} (hf : fX3_addTagTerm S x1 = some (r1, S1)) : Met l yX3_addTagTerm (Cond.code yX3_addTagTerm cX3_addTagTerm 2 (some .int) :: XALL) ({ frames := 4, cells := 0, slots := 0, locals := 91 } : Room) (va_Pc [.ref (q 0), .int x1] (gPre D cI ((xw cI q) S) sz)) (gQi D (xw cI q) S (fun (r : Int32) (u : St) => r = r1 ∧ u = S1) sz) 0 0 (va_A ((xw cI q) S) sz) := by
  unfold fX3_addTagTerm at hf
  refine Met.ofW (cc := cX3_addTagTerm) (maxL := 2) (ret := (some .int)) (by decide) rfl ?_
  intro p e s m args below meth c s₁ B hml hv
  obtain ⟨rfl, hg⟩ := hv
  have C : Ctx p s m _ meth c cX3_addTagTerm 2 RX3 (some .int) := Ctx.of B hml rfl
  obtain ⟨E, hw, hsz⟩ := g_start hg
  subst hsz
  have hl := lv_entry ([.ref (q 0), .int x1]) (n := 2) (Nat.le_of_ble_eq_true rfl)
  rw [lg_entry_eq]
  generalize (lg_sl ([.ref (q 0), .int x1]) ++ List.replicate (2 - (lg_sl ([.ref (q 0), .int x1])).length) Slot.unset).toArray = ls at hl ⊢
  have hl : lv_has ls 2 [(0, .ref (q 0)), (1, .int x1)] := hl
  refine lv_aload_n C.1 C.2.1 dX3_addTagTerm_0 rfl (lv_at hl 0 rfl) ?_
  refine lv_iload_n C.1 C.2.1 dX3_addTagTerm_1 rfl (lv_at hl 1 rfl) ?_
  obtain ⟨z_1, hz_1, hf⟩ := bnd hf
  refine g_cve (wf := (xw cI q)) (S := S) (rest := []) xw_adr hw (g_runV (rm := ({ frames := 0, cells := 0, slots := 0, locals := 0 } : Room)) (As := [.int x1]) (rest := []) C E hw F_X3_requireTag (ctX3_requireTag l (cI := cI) (D := D) (q := q) S x1 _ hz_1) km_X3_76 0 rfl rfl rfl hl.1 rfl (Nat.le_of_ble_eq_true rfl) ⟨(Nat.le_of_ble_eq_true rfl), (Nat.le_of_ble_eq_true rfl)⟩ ⟨(Nat.le_of_ble_eq_true rfl), (Nat.le_of_ble_eq_true rfl)⟩ dX3_addTagTerm_2) (fun H locs hw => ?_)
  refine lv_aload_n C.1 C.2.1 dX3_addTagTerm_5 rfl (lv_at hl 0 rfl) ?_
  obtain ⟨z_2, hz_2, hf⟩ := bnd hf
  refine g_cve (wf := (xw cI q)) (S := S) (rest := []) xw_adr hw (g_runV (rm := ({ frames := 0, cells := 0, slots := 0, locals := 0 } : Room)) (As := []) (rest := []) C E hw F_X3_requireRoomForTerm (ctX3_requireRoomForTerm l (cI := cI) (D := D) (q := q) S  _ hz_2) km_X3_125 0 rfl rfl rfl hl.1 rfl (Nat.le_of_ble_eq_true rfl) ⟨(Nat.le_of_ble_eq_true rfl), (Nat.le_of_ble_eq_true rfl)⟩ ⟨(Nat.le_of_ble_eq_true rfl), (Nat.le_of_ble_eq_true rfl)⟩ dX3_addTagTerm_6) (fun H locs hw => ?_)
  refine lv_aload_n C.1 C.2.1 dX3_addTagTerm_9 rfl (lv_at hl 0 rfl) ?_
  refine lv_iconst (v := 0) C.1 C.2.1 dX3_addTagTerm_10 (by decide) ?_
  refine lv_iload_n C.1 C.2.1 dX3_addTagTerm_11 rfl (lv_at hl 1 rfl) ?_
  refine lv_iload_n C.1 C.2.1 dX3_addTagTerm_12 rfl (lv_at hl 1 rfl) ?_
  obtain ⟨⟨v_3, S_4⟩, hu_5, hf⟩ := bnd hf
  have hf := pr_r hf
  refine g_cie (wf := (xw cI q)) (S := S) (rest := []) xw_adr hw (g_runV (rm := ({ frames := 3, cells := 0, slots := 0, locals := 67 } : Room)) (As := [.int 0, .int x1, .int x1]) (rest := []) C E hw F_X3_addTerm (ctX3_addTerm l (cI := cI) (D := D) (q := q) S 0 x1 x1 _ hu_5) km_X3_128 0 rfl rfl rfl hl.1 rfl (Nat.le_of_ble_eq_true rfl) ⟨(Nat.le_of_ble_eq_true rfl), (Nat.le_of_ble_eq_true rfl)⟩ ⟨(Nat.le_of_ble_eq_true rfl), (Nat.le_of_ble_eq_true rfl)⟩ dX3_addTagTerm_13) (fun H locs hw => ?_)
  exact g_iret C hw (Nat.le_of_ble_eq_true rfl) (Nat.le_of_ble_eq_true rfl) ⟨congrArg Prod.fst (Option.some.inj hf), congrArg Prod.snd (Option.some.inj hf)⟩ dX3_addTagTerm_16
/-! DreamLedger.requireTerm -/
def fX3_requireTerm (S : St) (x1 : Int32) : Option Unit :=
  if x1 < 0 then
    none
  else
    if x1 < (S 15 0) then
      some ()
    else
      none
set_option maxHeartbeats 4000000 in
set_option maxRecDepth 100000 in
theorem ctX3_requireTerm (l : Launch) {D : va_G} {cI : ClassId} {q : Nat → Nat} (S : St) (x1 : Int32) (sz : Nat) {r1 : Unit} (hf : fX3_requireTerm S x1 = some r1) : Met l yX3_requireTerm (Cond.code yX3_requireTerm cX3_requireTerm 2 none :: XALL) ({ frames := 0, cells := 0, slots := 0, locals := 0 } : Room) (va_Pc [.ref (q 0), .int x1] (gPre D cI ((xw cI q) S) sz)) (gQv D (xw cI q) S (fun (u : St) => u = S) sz) 0 0 (va_A ((xw cI q) S) sz) := by
  unfold fX3_requireTerm at hf
  refine Met.ofW (cc := cX3_requireTerm) (maxL := 2) (ret := none) (by decide) rfl ?_
  intro p e s m args below meth c s₁ B hml hv
  obtain ⟨rfl, hg⟩ := hv
  have C : Ctx p s m _ meth c cX3_requireTerm 2 RX3 none := Ctx.of B hml rfl
  obtain ⟨E, hw, hsz⟩ := g_start hg
  subst hsz
  have hl := lv_entry ([.ref (q 0), .int x1]) (n := 2) (Nat.le_of_ble_eq_true rfl)
  rw [lg_entry_eq]
  generalize (lg_sl ([.ref (q 0), .int x1]) ++ List.replicate (2 - (lg_sl ([.ref (q 0), .int x1])).length) Slot.unset).toArray = ls at hl ⊢
  have hl : lv_has ls 2 [(0, .ref (q 0)), (1, .int x1)] := hl
  refine lv_iload_n C.1 C.2.1 dX3_requireTerm_0 rfl (lv_at hl 1 rfl) ?_
  refine lv_if_lt (tgt := 15) C.1 C.2.1 dX3_requireTerm_1 (by decide) (fun hc => ?_) (fun hc => ?_)
  · have hf := ift hc hf
    cases hf
  · have hf := iff_ hc hf
    refine lv_iload_n C.1 C.2.1 dX3_requireTerm_4 rfl (lv_at hl 1 rfl) ?_
    refine lv_aload_n C.1 C.2.1 dX3_requireTerm_5 rfl (lv_at hl 0 rfl) ?_
    refine g_get C E hw inW3 0 rfl rfl 1 (by decide) kf_X3_19 rfl dX3_requireTerm_6 ?_
    refine g_getN C E hw inW2 2 rfl rfl 4 (by decide) kfN_X3_135 rfl dX3_requireTerm_9 ?_
    refine lv_icmp_lt (tgt := 25) C.1 C.2.1 dX3_requireTerm_12 (by decide) (fun hc => ?_) (fun hc => ?_)
    · have hf := ift hc hf
      exact g_vret C hw (Nat.le_of_ble_eq_true rfl) (Nat.le_of_ble_eq_true rfl) rfl dX3_requireTerm_25
    · have hf := iff_ hc hf
      cases hf
/-! DreamLedger.addBothTerm -/
def fX3_addBothTerm (S : St) (x1 : Int32) (x2 : Int32) : Option (Int32 × St) :=
  Option.bind (fX3_requireTerm S x1) fun z_1 =>
  Option.bind (fX3_requireTerm S x2) fun z_2 =>
  Option.bind (fX3_requireRoomForTerm S) fun z_3 =>
  Option.bind (fX3_addTerm S 1 x1 x2) fun u_6 => pr u_6 fun v_4 S_5 =>
  some (v_4, S_5)
set_option maxHeartbeats 4000000 in
set_option maxRecDepth 100000 in
theorem ctX3_addBothTerm (l : Launch) {D : va_G} {cI : ClassId} {q : Nat → Nat} (S : St) (x1 : Int32) (x2 : Int32) (sz : Nat) {r1 : Int32} {S1 : St} (hf : fX3_addBothTerm S x1 x2 = some (r1, S1)) : Met l yX3_addBothTerm (Cond.code yX3_addBothTerm cX3_addBothTerm 3 (some .int) :: XALL) ({ frames := 4, cells := 0, slots := 0, locals := 91 } : Room) (va_Pc [.ref (q 0), .int x1, .int x2] (gPre D cI ((xw cI q) S) sz)) (gQi D (xw cI q) S (fun (r : Int32) (u : St) => r = r1 ∧ u = S1) sz) 0 0 (va_A ((xw cI q) S) sz) := by
  unfold fX3_addBothTerm at hf
  refine Met.ofW (cc := cX3_addBothTerm) (maxL := 3) (ret := (some .int)) (by decide) rfl ?_
  intro p e s m args below meth c s₁ B hml hv
  obtain ⟨rfl, hg⟩ := hv
  have C : Ctx p s m _ meth c cX3_addBothTerm 3 RX3 (some .int) := Ctx.of B hml rfl
  obtain ⟨E, hw, hsz⟩ := g_start hg
  subst hsz
  have hl := lv_entry ([.ref (q 0), .int x1, .int x2]) (n := 3) (Nat.le_of_ble_eq_true rfl)
  rw [lg_entry_eq]
  generalize (lg_sl ([.ref (q 0), .int x1, .int x2]) ++ List.replicate (3 - (lg_sl ([.ref (q 0), .int x1, .int x2])).length) Slot.unset).toArray = ls at hl ⊢
  have hl : lv_has ls 3 [(0, .ref (q 0)), (1, .int x1), (2, .int x2)] := hl
  refine lv_aload_n C.1 C.2.1 dX3_addBothTerm_0 rfl (lv_at hl 0 rfl) ?_
  refine lv_iload_n C.1 C.2.1 dX3_addBothTerm_1 rfl (lv_at hl 1 rfl) ?_
  obtain ⟨z_1, hz_1, hf⟩ := bnd hf
  refine g_cve (wf := (xw cI q)) (S := S) (rest := []) xw_adr hw (g_runV (rm := ({ frames := 0, cells := 0, slots := 0, locals := 0 } : Room)) (As := [.int x1]) (rest := []) C E hw F_X3_requireTerm (ctX3_requireTerm l (cI := cI) (D := D) (q := q) S x1 _ hz_1) km_X3_132 0 rfl rfl rfl hl.1 rfl (Nat.le_of_ble_eq_true rfl) ⟨(Nat.le_of_ble_eq_true rfl), (Nat.le_of_ble_eq_true rfl)⟩ ⟨(Nat.le_of_ble_eq_true rfl), (Nat.le_of_ble_eq_true rfl)⟩ dX3_addBothTerm_2) (fun H locs hw => ?_)
  refine lv_aload_n C.1 C.2.1 dX3_addBothTerm_5 rfl (lv_at hl 0 rfl) ?_
  refine lv_iload_n C.1 C.2.1 dX3_addBothTerm_6 rfl (lv_at hl 2 rfl) ?_
  obtain ⟨z_2, hz_2, hf⟩ := bnd hf
  refine g_cve (wf := (xw cI q)) (S := S) (rest := []) xw_adr hw (g_runV (rm := ({ frames := 0, cells := 0, slots := 0, locals := 0 } : Room)) (As := [.int x2]) (rest := []) C E hw F_X3_requireTerm (ctX3_requireTerm l (cI := cI) (D := D) (q := q) S x2 _ hz_2) km_X3_132 0 rfl rfl rfl hl.1 rfl (Nat.le_of_ble_eq_true rfl) ⟨(Nat.le_of_ble_eq_true rfl), (Nat.le_of_ble_eq_true rfl)⟩ ⟨(Nat.le_of_ble_eq_true rfl), (Nat.le_of_ble_eq_true rfl)⟩ dX3_addBothTerm_7) (fun H locs hw => ?_)
  refine lv_aload_n C.1 C.2.1 dX3_addBothTerm_10 rfl (lv_at hl 0 rfl) ?_
  obtain ⟨z_3, hz_3, hf⟩ := bnd hf
  refine g_cve (wf := (xw cI q)) (S := S) (rest := []) xw_adr hw (g_runV (rm := ({ frames := 0, cells := 0, slots := 0, locals := 0 } : Room)) (As := []) (rest := []) C E hw F_X3_requireRoomForTerm (ctX3_requireRoomForTerm l (cI := cI) (D := D) (q := q) S  _ hz_3) km_X3_125 0 rfl rfl rfl hl.1 rfl (Nat.le_of_ble_eq_true rfl) ⟨(Nat.le_of_ble_eq_true rfl), (Nat.le_of_ble_eq_true rfl)⟩ ⟨(Nat.le_of_ble_eq_true rfl), (Nat.le_of_ble_eq_true rfl)⟩ dX3_addBothTerm_11) (fun H locs hw => ?_)
  refine lv_aload_n C.1 C.2.1 dX3_addBothTerm_14 rfl (lv_at hl 0 rfl) ?_
  refine lv_iconst (v := 1) C.1 C.2.1 dX3_addBothTerm_15 (by decide) ?_
  refine lv_iload_n C.1 C.2.1 dX3_addBothTerm_16 rfl (lv_at hl 1 rfl) ?_
  refine lv_iload_n C.1 C.2.1 dX3_addBothTerm_17 rfl (lv_at hl 2 rfl) ?_
  obtain ⟨⟨v_4, S_5⟩, hu_6, hf⟩ := bnd hf
  have hf := pr_r hf
  refine g_cie (wf := (xw cI q)) (S := S) (rest := []) xw_adr hw (g_runV (rm := ({ frames := 3, cells := 0, slots := 0, locals := 67 } : Room)) (As := [.int 1, .int x1, .int x2]) (rest := []) C E hw F_X3_addTerm (ctX3_addTerm l (cI := cI) (D := D) (q := q) S 1 x1 x2 _ hu_6) km_X3_128 0 rfl rfl rfl hl.1 rfl (Nat.le_of_ble_eq_true rfl) ⟨(Nat.le_of_ble_eq_true rfl), (Nat.le_of_ble_eq_true rfl)⟩ ⟨(Nat.le_of_ble_eq_true rfl), (Nat.le_of_ble_eq_true rfl)⟩ dX3_addBothTerm_18) (fun H locs hw => ?_)
  exact g_iret C hw (Nat.le_of_ble_eq_true rfl) (Nat.le_of_ble_eq_true rfl) ⟨congrArg Prod.fst (Option.some.inj hf), congrArg Prod.snd (Option.some.inj hf)⟩ dX3_addBothTerm_21
/-! DreamLedger.addEitherTerm -/
def fX3_addEitherTerm (S : St) (x1 : Int32) (x2 : Int32) : Option (Int32 × St) :=
  Option.bind (fX3_requireTerm S x1) fun z_1 =>
  Option.bind (fX3_requireTerm S x2) fun z_2 =>
  Option.bind (fX3_requireRoomForTerm S) fun z_3 =>
  Option.bind (fX3_addTerm S 2 x1 x2) fun u_6 => pr u_6 fun v_4 S_5 =>
  some (v_4, S_5)
set_option maxHeartbeats 4000000 in
set_option maxRecDepth 100000 in
theorem ctX3_addEitherTerm (l : Launch) {D : va_G} {cI : ClassId} {q : Nat → Nat} (S : St) (x1 : Int32) (x2 : Int32) (sz : Nat) {r1 : Int32} {S1 : St} (hf : fX3_addEitherTerm S x1 x2 = some (r1, S1)) : Met l yX3_addEitherTerm (Cond.code yX3_addEitherTerm cX3_addEitherTerm 3 (some .int) :: XALL) ({ frames := 4, cells := 0, slots := 0, locals := 91 } : Room) (va_Pc [.ref (q 0), .int x1, .int x2] (gPre D cI ((xw cI q) S) sz)) (gQi D (xw cI q) S (fun (r : Int32) (u : St) => r = r1 ∧ u = S1) sz) 0 0 (va_A ((xw cI q) S) sz) := by
  unfold fX3_addEitherTerm at hf
  refine Met.ofW (cc := cX3_addEitherTerm) (maxL := 3) (ret := (some .int)) (by decide) rfl ?_
  intro p e s m args below meth c s₁ B hml hv
  obtain ⟨rfl, hg⟩ := hv
  have C : Ctx p s m _ meth c cX3_addEitherTerm 3 RX3 (some .int) := Ctx.of B hml rfl
  obtain ⟨E, hw, hsz⟩ := g_start hg
  subst hsz
  have hl := lv_entry ([.ref (q 0), .int x1, .int x2]) (n := 3) (Nat.le_of_ble_eq_true rfl)
  rw [lg_entry_eq]
  generalize (lg_sl ([.ref (q 0), .int x1, .int x2]) ++ List.replicate (3 - (lg_sl ([.ref (q 0), .int x1, .int x2])).length) Slot.unset).toArray = ls at hl ⊢
  have hl : lv_has ls 3 [(0, .ref (q 0)), (1, .int x1), (2, .int x2)] := hl
  refine lv_aload_n C.1 C.2.1 dX3_addEitherTerm_0 rfl (lv_at hl 0 rfl) ?_
  refine lv_iload_n C.1 C.2.1 dX3_addEitherTerm_1 rfl (lv_at hl 1 rfl) ?_
  obtain ⟨z_1, hz_1, hf⟩ := bnd hf
  refine g_cve (wf := (xw cI q)) (S := S) (rest := []) xw_adr hw (g_runV (rm := ({ frames := 0, cells := 0, slots := 0, locals := 0 } : Room)) (As := [.int x1]) (rest := []) C E hw F_X3_requireTerm (ctX3_requireTerm l (cI := cI) (D := D) (q := q) S x1 _ hz_1) km_X3_132 0 rfl rfl rfl hl.1 rfl (Nat.le_of_ble_eq_true rfl) ⟨(Nat.le_of_ble_eq_true rfl), (Nat.le_of_ble_eq_true rfl)⟩ ⟨(Nat.le_of_ble_eq_true rfl), (Nat.le_of_ble_eq_true rfl)⟩ dX3_addEitherTerm_2) (fun H locs hw => ?_)
  refine lv_aload_n C.1 C.2.1 dX3_addEitherTerm_5 rfl (lv_at hl 0 rfl) ?_
  refine lv_iload_n C.1 C.2.1 dX3_addEitherTerm_6 rfl (lv_at hl 2 rfl) ?_
  obtain ⟨z_2, hz_2, hf⟩ := bnd hf
  refine g_cve (wf := (xw cI q)) (S := S) (rest := []) xw_adr hw (g_runV (rm := ({ frames := 0, cells := 0, slots := 0, locals := 0 } : Room)) (As := [.int x2]) (rest := []) C E hw F_X3_requireTerm (ctX3_requireTerm l (cI := cI) (D := D) (q := q) S x2 _ hz_2) km_X3_132 0 rfl rfl rfl hl.1 rfl (Nat.le_of_ble_eq_true rfl) ⟨(Nat.le_of_ble_eq_true rfl), (Nat.le_of_ble_eq_true rfl)⟩ ⟨(Nat.le_of_ble_eq_true rfl), (Nat.le_of_ble_eq_true rfl)⟩ dX3_addEitherTerm_7) (fun H locs hw => ?_)
  refine lv_aload_n C.1 C.2.1 dX3_addEitherTerm_10 rfl (lv_at hl 0 rfl) ?_
  obtain ⟨z_3, hz_3, hf⟩ := bnd hf
  refine g_cve (wf := (xw cI q)) (S := S) (rest := []) xw_adr hw (g_runV (rm := ({ frames := 0, cells := 0, slots := 0, locals := 0 } : Room)) (As := []) (rest := []) C E hw F_X3_requireRoomForTerm (ctX3_requireRoomForTerm l (cI := cI) (D := D) (q := q) S  _ hz_3) km_X3_125 0 rfl rfl rfl hl.1 rfl (Nat.le_of_ble_eq_true rfl) ⟨(Nat.le_of_ble_eq_true rfl), (Nat.le_of_ble_eq_true rfl)⟩ ⟨(Nat.le_of_ble_eq_true rfl), (Nat.le_of_ble_eq_true rfl)⟩ dX3_addEitherTerm_11) (fun H locs hw => ?_)
  refine lv_aload_n C.1 C.2.1 dX3_addEitherTerm_14 rfl (lv_at hl 0 rfl) ?_
  refine lv_iconst (v := 2) C.1 C.2.1 dX3_addEitherTerm_15 (by decide) ?_
  refine lv_iload_n C.1 C.2.1 dX3_addEitherTerm_16 rfl (lv_at hl 1 rfl) ?_
  refine lv_iload_n C.1 C.2.1 dX3_addEitherTerm_17 rfl (lv_at hl 2 rfl) ?_
  obtain ⟨⟨v_4, S_5⟩, hu_6, hf⟩ := bnd hf
  have hf := pr_r hf
  refine g_cie (wf := (xw cI q)) (S := S) (rest := []) xw_adr hw (g_runV (rm := ({ frames := 3, cells := 0, slots := 0, locals := 67 } : Room)) (As := [.int 2, .int x1, .int x2]) (rest := []) C E hw F_X3_addTerm (ctX3_addTerm l (cI := cI) (D := D) (q := q) S 2 x1 x2 _ hu_6) km_X3_128 0 rfl rfl rfl hl.1 rfl (Nat.le_of_ble_eq_true rfl) ⟨(Nat.le_of_ble_eq_true rfl), (Nat.le_of_ble_eq_true rfl)⟩ ⟨(Nat.le_of_ble_eq_true rfl), (Nat.le_of_ble_eq_true rfl)⟩ dX3_addEitherTerm_18) (fun H locs hw => ?_)
  exact g_iret C hw (Nat.le_of_ble_eq_true rfl) (Nat.le_of_ble_eq_true rfl) ⟨congrArg Prod.fst (Option.some.inj hf), congrArg Prod.snd (Option.some.inj hf)⟩ dX3_addEitherTerm_21
/-! DreamLedger.addWithoutTerm -/
def fX3_addWithoutTerm (S : St) (x1 : Int32) : Option (Int32 × St) :=
  Option.bind (fX3_requireTerm S x1) fun z_1 =>
  Option.bind (fX3_requireRoomForTerm S) fun z_2 =>
  Option.bind (fX3_addTerm S 3 x1 x1) fun u_5 => pr u_5 fun v_3 S_4 =>
  some (v_3, S_4)
set_option maxHeartbeats 4000000 in
set_option maxRecDepth 100000 in
theorem ctX3_addWithoutTerm (l : Launch) {D : va_G} {cI : ClassId} {q : Nat → Nat} (S : St) (x1 : Int32) (sz : Nat) {r1 : Int32} {S1 : St} (hf : fX3_addWithoutTerm S x1 = some (r1, S1)) : Met l yX3_addWithoutTerm (Cond.code yX3_addWithoutTerm cX3_addWithoutTerm 2 (some .int) :: XALL) ({ frames := 4, cells := 0, slots := 0, locals := 91 } : Room) (va_Pc [.ref (q 0), .int x1] (gPre D cI ((xw cI q) S) sz)) (gQi D (xw cI q) S (fun (r : Int32) (u : St) => r = r1 ∧ u = S1) sz) 0 0 (va_A ((xw cI q) S) sz) := by
  unfold fX3_addWithoutTerm at hf
  refine Met.ofW (cc := cX3_addWithoutTerm) (maxL := 2) (ret := (some .int)) (by decide) rfl ?_
  intro p e s m args below meth c s₁ B hml hv
  obtain ⟨rfl, hg⟩ := hv
  have C : Ctx p s m _ meth c cX3_addWithoutTerm 2 RX3 (some .int) := Ctx.of B hml rfl
  obtain ⟨E, hw, hsz⟩ := g_start hg
  subst hsz
  have hl := lv_entry ([.ref (q 0), .int x1]) (n := 2) (Nat.le_of_ble_eq_true rfl)
  rw [lg_entry_eq]
  generalize (lg_sl ([.ref (q 0), .int x1]) ++ List.replicate (2 - (lg_sl ([.ref (q 0), .int x1])).length) Slot.unset).toArray = ls at hl ⊢
  have hl : lv_has ls 2 [(0, .ref (q 0)), (1, .int x1)] := hl
  refine lv_aload_n C.1 C.2.1 dX3_addWithoutTerm_0 rfl (lv_at hl 0 rfl) ?_
  refine lv_iload_n C.1 C.2.1 dX3_addWithoutTerm_1 rfl (lv_at hl 1 rfl) ?_
  obtain ⟨z_1, hz_1, hf⟩ := bnd hf
  refine g_cve (wf := (xw cI q)) (S := S) (rest := []) xw_adr hw (g_runV (rm := ({ frames := 0, cells := 0, slots := 0, locals := 0 } : Room)) (As := [.int x1]) (rest := []) C E hw F_X3_requireTerm (ctX3_requireTerm l (cI := cI) (D := D) (q := q) S x1 _ hz_1) km_X3_132 0 rfl rfl rfl hl.1 rfl (Nat.le_of_ble_eq_true rfl) ⟨(Nat.le_of_ble_eq_true rfl), (Nat.le_of_ble_eq_true rfl)⟩ ⟨(Nat.le_of_ble_eq_true rfl), (Nat.le_of_ble_eq_true rfl)⟩ dX3_addWithoutTerm_2) (fun H locs hw => ?_)
  refine lv_aload_n C.1 C.2.1 dX3_addWithoutTerm_5 rfl (lv_at hl 0 rfl) ?_
  obtain ⟨z_2, hz_2, hf⟩ := bnd hf
  refine g_cve (wf := (xw cI q)) (S := S) (rest := []) xw_adr hw (g_runV (rm := ({ frames := 0, cells := 0, slots := 0, locals := 0 } : Room)) (As := []) (rest := []) C E hw F_X3_requireRoomForTerm (ctX3_requireRoomForTerm l (cI := cI) (D := D) (q := q) S  _ hz_2) km_X3_125 0 rfl rfl rfl hl.1 rfl (Nat.le_of_ble_eq_true rfl) ⟨(Nat.le_of_ble_eq_true rfl), (Nat.le_of_ble_eq_true rfl)⟩ ⟨(Nat.le_of_ble_eq_true rfl), (Nat.le_of_ble_eq_true rfl)⟩ dX3_addWithoutTerm_6) (fun H locs hw => ?_)
  refine lv_aload_n C.1 C.2.1 dX3_addWithoutTerm_9 rfl (lv_at hl 0 rfl) ?_
  refine lv_iconst (v := 3) C.1 C.2.1 dX3_addWithoutTerm_10 (by decide) ?_
  refine lv_iload_n C.1 C.2.1 dX3_addWithoutTerm_11 rfl (lv_at hl 1 rfl) ?_
  refine lv_iload_n C.1 C.2.1 dX3_addWithoutTerm_12 rfl (lv_at hl 1 rfl) ?_
  obtain ⟨⟨v_3, S_4⟩, hu_5, hf⟩ := bnd hf
  have hf := pr_r hf
  refine g_cie (wf := (xw cI q)) (S := S) (rest := []) xw_adr hw (g_runV (rm := ({ frames := 3, cells := 0, slots := 0, locals := 67 } : Room)) (As := [.int 3, .int x1, .int x1]) (rest := []) C E hw F_X3_addTerm (ctX3_addTerm l (cI := cI) (D := D) (q := q) S 3 x1 x1 _ hu_5) km_X3_128 0 rfl rfl rfl hl.1 rfl (Nat.le_of_ble_eq_true rfl) ⟨(Nat.le_of_ble_eq_true rfl), (Nat.le_of_ble_eq_true rfl)⟩ ⟨(Nat.le_of_ble_eq_true rfl), (Nat.le_of_ble_eq_true rfl)⟩ dX3_addWithoutTerm_13) (fun H locs hw => ?_)
  exact g_iret C hw (Nat.le_of_ble_eq_true rfl) (Nat.le_of_ble_eq_true rfl) ⟨congrArg Prod.fst (Option.some.inj hf), congrArg Prod.snd (Option.some.inj hf)⟩ dX3_addWithoutTerm_16
/-! DreamLedger.clearTerms -/
def fX3_clearTerms (S : St) : Option (Int32 × St) :=
  Option.bind (some ((S 15 0))) fun x1_1 =>
  Option.bind (some (up S 15 0 0)) fun S_2 =>
  some (x1_1, S_2)
set_option maxHeartbeats 4000000 in
set_option maxRecDepth 100000 in
theorem ctX3_clearTerms (l : Launch) {D : va_G} {cI : ClassId} {q : Nat → Nat} (S : St) (sz : Nat) {r1 : Int32} {S1 : St} (hf : fX3_clearTerms S = some (r1, S1)) : Met l yX3_clearTerms (Cond.code yX3_clearTerms cX3_clearTerms 2 (some .int) :: XALL) ({ frames := 0, cells := 0, slots := 0, locals := 0 } : Room) (va_Pc [.ref (q 0)] (gPre D cI ((xw cI q) S) sz)) (gQi D (xw cI q) S (fun (r : Int32) (u : St) => r = r1 ∧ u = S1) sz) 0 0 (va_A ((xw cI q) S) sz) := by
  unfold fX3_clearTerms at hf
  refine Met.ofW (cc := cX3_clearTerms) (maxL := 2) (ret := (some .int)) (by decide) rfl ?_
  intro p e s m args below meth c s₁ B hml hv
  obtain ⟨rfl, hg⟩ := hv
  have C : Ctx p s m _ meth c cX3_clearTerms 2 RX3 (some .int) := Ctx.of B hml rfl
  obtain ⟨E, hw, hsz⟩ := g_start hg
  subst hsz
  have hl := lv_entry ([.ref (q 0)]) (n := 2) (Nat.le_of_ble_eq_true rfl)
  rw [lg_entry_eq]
  generalize (lg_sl ([.ref (q 0)]) ++ List.replicate (2 - (lg_sl ([.ref (q 0)])).length) Slot.unset).toArray = ls at hl ⊢
  have hl : lv_has ls 2 [(0, .ref (q 0))] := hl
  refine lv_aload_n C.1 C.2.1 dX3_clearTerms_0 rfl (lv_at hl 0 rfl) ?_
  refine g_get C E hw inW3 0 rfl rfl 1 (by decide) kf_X3_19 rfl dX3_clearTerms_1 ?_
  refine g_getN C E hw inW2 2 rfl rfl 4 (by decide) kfN_X3_135 rfl dX3_clearTerms_4 ?_
  obtain ⟨x1_1, hx1_1, hf⟩ := bnd hf
  refine topi_b hx1_1 ?_
  refine lv_istore_n (lv' := [(1, .int x1_1), (0, .ref (q 0))]) C.1 C.2.1 dX3_clearTerms_7 rfl hl (by decide) rfl (fun ls hl => ?_)
  refine lv_aload_n C.1 C.2.1 dX3_clearTerms_8 rfl (lv_at hl 1 rfl) ?_
  refine g_get C E hw inW3 0 rfl rfl 1 (by decide) kf_X3_19 rfl dX3_clearTerms_9 ?_
  refine lv_iconst (v := 0) C.1 C.2.1 dX3_clearTerms_12 (by decide) ?_
  obtain ⟨S_2, hS_2, hf⟩ := bnd hf
  refine g_putN C E hw inW2 tyX2 tyX2_ok nmX2 2 rfl rfl 4 (by decide) kfN_X3_135 rfl (by decide +kernel) (Nat.le_of_ble_eq_true rfl) (ws' := (xw cI q) S_2) (by rw [← Option.some.inj hS_2]; rfl) dX3_clearTerms_13 (fun H locs hw => ?_)
  refine lv_iload_n C.1 C.2.1 dX3_clearTerms_16 rfl (lv_at hl 0 rfl) ?_
  exact g_iret C hw (Nat.le_of_ble_eq_true rfl) (Nat.le_of_ble_eq_true rfl) ⟨congrArg Prod.fst (Option.some.inj hf), congrArg Prod.snd (Option.some.inj hf)⟩ dX3_clearTerms_17
/-! DreamLedger.hasParent -/
def fX3_hasParent (S : St) (x1 : Int32) : Option Int32 :=
  Option.bind (fX3_requireTag S x1) fun z_1 =>
  Option.bind (ld S 4 16 x1) fun v_2 =>
  if v_2 = (-1) then
    some 0
  else
    some 1
set_option maxHeartbeats 4000000 in
set_option maxRecDepth 100000 in
theorem ctX3_hasParent (l : Launch) {D : va_G} {cI : ClassId} {q : Nat → Nat} (S : St) (x1 : Int32) (sz : Nat) {r1 : Int32} (hf : fX3_hasParent S x1 = some r1) : Met l yX3_hasParent (Cond.code yX3_hasParent cX3_hasParent 2 (some .boolean) :: XALL) ({ frames := 1, cells := 0, slots := 0, locals := 21 } : Room) (va_Pc [.ref (q 0), .int x1] (gPre D cI ((xw cI q) S) sz)) (gQi D (xw cI q) S (fun (r : Int32) (u : St) => r = r1 ∧ u = S) sz) 0 0 (va_A ((xw cI q) S) sz) := by
  unfold fX3_hasParent at hf
  refine Met.ofW (cc := cX3_hasParent) (maxL := 2) (ret := (some .boolean)) (by decide) rfl ?_
  intro p e s m args below meth c s₁ B hml hv
  obtain ⟨rfl, hg⟩ := hv
  have C : Ctx p s m _ meth c cX3_hasParent 2 RX3 (some .boolean) := Ctx.of B hml rfl
  obtain ⟨E, hw, hsz⟩ := g_start hg
  subst hsz
  have hl := lv_entry ([.ref (q 0), .int x1]) (n := 2) (Nat.le_of_ble_eq_true rfl)
  rw [lg_entry_eq]
  generalize (lg_sl ([.ref (q 0), .int x1]) ++ List.replicate (2 - (lg_sl ([.ref (q 0), .int x1])).length) Slot.unset).toArray = ls at hl ⊢
  have hl : lv_has ls 2 [(0, .ref (q 0)), (1, .int x1)] := hl
  refine lv_aload_n C.1 C.2.1 dX3_hasParent_0 rfl (lv_at hl 0 rfl) ?_
  refine lv_iload_n C.1 C.2.1 dX3_hasParent_1 rfl (lv_at hl 1 rfl) ?_
  obtain ⟨z_1, hz_1, hf⟩ := bnd hf
  refine g_cve (wf := (xw cI q)) (S := S) (rest := []) xw_adr hw (g_runV (rm := ({ frames := 0, cells := 0, slots := 0, locals := 0 } : Room)) (As := [.int x1]) (rest := []) C E hw F_X3_requireTag (ctX3_requireTag l (cI := cI) (D := D) (q := q) S x1 _ hz_1) km_X3_76 0 rfl rfl rfl hl.1 rfl (Nat.le_of_ble_eq_true rfl) ⟨(Nat.le_of_ble_eq_true rfl), (Nat.le_of_ble_eq_true rfl)⟩ ⟨(Nat.le_of_ble_eq_true rfl), (Nat.le_of_ble_eq_true rfl)⟩ dX3_hasParent_2) (fun H locs hw => ?_)
  refine lv_aload_n C.1 C.2.1 dX3_hasParent_5 rfl (lv_at hl 0 rfl) ?_
  refine g_get C E hw inW3 0 rfl rfl 0 (by decide) kf_X3_10 rfl dX3_hasParent_6 ?_
  refine g_getN C E hw inW1 1 rfl rfl 0 (by decide) kfN_X3_73 rfl dX3_hasParent_9 ?_
  refine lv_iload_n C.1 C.2.1 dX3_hasParent_12 rfl (lv_at hl 1 rfl) ?_
  obtain ⟨v_2, hv_2, hf⟩ := bnd hf
  refine g_ald C E hw 8 rfl (ld_some hv_2) dX3_hasParent_13 ?_
  refine lv_iconst (v := (-1)) C.1 C.2.1 dX3_hasParent_14 (by decide) ?_
  refine lv_icmp_eq (tgt := 22) C.1 C.2.1 dX3_hasParent_15 (by decide) (fun hc => ?_) (fun hc => ?_)
  · have hf := ift hc hf
    refine lv_iconst (v := 0) C.1 C.2.1 dX3_hasParent_22 (by decide) ?_
    exact g_zret C hw (Nat.le_of_ble_eq_true rfl) (Nat.le_of_ble_eq_true rfl) (Or.inl rfl) ⟨Option.some.inj hf, rfl⟩ dX3_hasParent_23
  · have hf := iff_ hc hf
    refine lv_iconst (v := 1) C.1 C.2.1 dX3_hasParent_18 (by decide) ?_
    refine lv_goto (tgt := 23) C.1 C.2.1 dX3_hasParent_19 (by decide) ?_
    exact g_zret C hw (Nat.le_of_ble_eq_true rfl) (Nat.le_of_ble_eq_true rfl) (Or.inr rfl) ⟨Option.some.inj hf, rfl⟩ dX3_hasParent_23
/-! DreamLedger.parentOf -/
def fX3_parentOf (S : St) (x1 : Int32) : Option Int32 :=
  Option.bind (fX3_requireParent S x1) fun z_1 =>
  Option.bind (ld S 4 16 x1) fun v_2 =>
  some v_2
set_option maxHeartbeats 4000000 in
set_option maxRecDepth 100000 in
theorem ctX3_parentOf (l : Launch) {D : va_G} {cI : ClassId} {q : Nat → Nat} (S : St) (x1 : Int32) (sz : Nat) {r1 : Int32} (hf : fX3_parentOf S x1 = some r1) : Met l yX3_parentOf (Cond.code yX3_parentOf cX3_parentOf 2 (some .int) :: XALL) ({ frames := 2, cells := 0, slots := 0, locals := 42 } : Room) (va_Pc [.ref (q 0), .int x1] (gPre D cI ((xw cI q) S) sz)) (gQi D (xw cI q) S (fun (r : Int32) (u : St) => r = r1 ∧ u = S) sz) 0 0 (va_A ((xw cI q) S) sz) := by
  unfold fX3_parentOf at hf
  refine Met.ofW (cc := cX3_parentOf) (maxL := 2) (ret := (some .int)) (by decide) rfl ?_
  intro p e s m args below meth c s₁ B hml hv
  obtain ⟨rfl, hg⟩ := hv
  have C : Ctx p s m _ meth c cX3_parentOf 2 RX3 (some .int) := Ctx.of B hml rfl
  obtain ⟨E, hw, hsz⟩ := g_start hg
  subst hsz
  have hl := lv_entry ([.ref (q 0), .int x1]) (n := 2) (Nat.le_of_ble_eq_true rfl)
  rw [lg_entry_eq]
  generalize (lg_sl ([.ref (q 0), .int x1]) ++ List.replicate (2 - (lg_sl ([.ref (q 0), .int x1])).length) Slot.unset).toArray = ls at hl ⊢
  have hl : lv_has ls 2 [(0, .ref (q 0)), (1, .int x1)] := hl
  refine lv_aload_n C.1 C.2.1 dX3_parentOf_0 rfl (lv_at hl 0 rfl) ?_
  refine lv_iload_n C.1 C.2.1 dX3_parentOf_1 rfl (lv_at hl 1 rfl) ?_
  obtain ⟨z_1, hz_1, hf⟩ := bnd hf
  refine g_cve (wf := (xw cI q)) (S := S) (rest := []) xw_adr hw (g_runV (rm := ({ frames := 1, cells := 0, slots := 0, locals := 21 } : Room)) (As := [.int x1]) (rest := []) C E hw F_X3_requireParent (ctX3_requireParent l (cI := cI) (D := D) (q := q) S x1 _ hz_1) km_X3_69 0 rfl rfl rfl hl.1 rfl (Nat.le_of_ble_eq_true rfl) ⟨(Nat.le_of_ble_eq_true rfl), (Nat.le_of_ble_eq_true rfl)⟩ ⟨(Nat.le_of_ble_eq_true rfl), (Nat.le_of_ble_eq_true rfl)⟩ dX3_parentOf_2) (fun H locs hw => ?_)
  refine lv_aload_n C.1 C.2.1 dX3_parentOf_5 rfl (lv_at hl 0 rfl) ?_
  refine g_get C E hw inW3 0 rfl rfl 0 (by decide) kf_X3_10 rfl dX3_parentOf_6 ?_
  refine g_getN C E hw inW1 1 rfl rfl 0 (by decide) kfN_X3_73 rfl dX3_parentOf_9 ?_
  refine lv_iload_n C.1 C.2.1 dX3_parentOf_12 rfl (lv_at hl 1 rfl) ?_
  obtain ⟨v_2, hv_2, hf⟩ := bnd hf
  refine g_ald C E hw 8 rfl (ld_some hv_2) dX3_parentOf_13 ?_
  exact g_iret C hw (Nat.le_of_ble_eq_true rfl) (Nat.le_of_ble_eq_true rfl) ⟨Option.some.inj hf, rfl⟩ dX3_parentOf_14
/-! DreamLedger.tagsAbove -/
def fX3_tagsAbove (S : St) (x1 : Int32) : Option Int32 :=
  Option.bind (fX3_requireTag S x1) fun z_1 =>
  Option.bind (fX1_countAbove S x1) fun v_2 =>
  some v_2
set_option maxHeartbeats 4000000 in
set_option maxRecDepth 100000 in
theorem ctX3_tagsAbove (l : Launch) {D : va_G} {cI : ClassId} {q : Nat → Nat} (S : St) (x1 : Int32) (sz : Nat) {r1 : Int32} (hf : fX3_tagsAbove S x1 = some r1) : Met l yX3_tagsAbove (Cond.code yX3_tagsAbove cX3_tagsAbove 2 (some .int) :: XALL) ({ frames := 2, cells := 0, slots := 0, locals := 41 } : Room) (va_Pc [.ref (q 0), .int x1] (gPre D cI ((xw cI q) S) sz)) (gQi D (xw cI q) S (fun (r : Int32) (u : St) => r = r1 ∧ u = S) sz) 0 0 (va_A ((xw cI q) S) sz) := by
  unfold fX3_tagsAbove at hf
  refine Met.ofW (cc := cX3_tagsAbove) (maxL := 2) (ret := (some .int)) (by decide) rfl ?_
  intro p e s m args below meth c s₁ B hml hv
  obtain ⟨rfl, hg⟩ := hv
  have C : Ctx p s m _ meth c cX3_tagsAbove 2 RX3 (some .int) := Ctx.of B hml rfl
  obtain ⟨E, hw, hsz⟩ := g_start hg
  subst hsz
  have hl := lv_entry ([.ref (q 0), .int x1]) (n := 2) (Nat.le_of_ble_eq_true rfl)
  rw [lg_entry_eq]
  generalize (lg_sl ([.ref (q 0), .int x1]) ++ List.replicate (2 - (lg_sl ([.ref (q 0), .int x1])).length) Slot.unset).toArray = ls at hl ⊢
  have hl : lv_has ls 2 [(0, .ref (q 0)), (1, .int x1)] := hl
  refine lv_aload_n C.1 C.2.1 dX3_tagsAbove_0 rfl (lv_at hl 0 rfl) ?_
  refine lv_iload_n C.1 C.2.1 dX3_tagsAbove_1 rfl (lv_at hl 1 rfl) ?_
  obtain ⟨z_1, hz_1, hf⟩ := bnd hf
  refine g_cve (wf := (xw cI q)) (S := S) (rest := []) xw_adr hw (g_runV (rm := ({ frames := 0, cells := 0, slots := 0, locals := 0 } : Room)) (As := [.int x1]) (rest := []) C E hw F_X3_requireTag (ctX3_requireTag l (cI := cI) (D := D) (q := q) S x1 _ hz_1) km_X3_76 0 rfl rfl rfl hl.1 rfl (Nat.le_of_ble_eq_true rfl) ⟨(Nat.le_of_ble_eq_true rfl), (Nat.le_of_ble_eq_true rfl)⟩ ⟨(Nat.le_of_ble_eq_true rfl), (Nat.le_of_ble_eq_true rfl)⟩ dX3_tagsAbove_2) (fun H locs hw => ?_)
  refine lv_aload_n C.1 C.2.1 dX3_tagsAbove_5 rfl (lv_at hl 0 rfl) ?_
  refine g_get C E hw inW3 0 rfl rfl 0 (by decide) kf_X3_10 rfl dX3_tagsAbove_6 ?_
  refine lv_iload_n C.1 C.2.1 dX3_tagsAbove_9 rfl (lv_at hl 1 rfl) ?_
  obtain ⟨v_2, hv_2, hf⟩ := bnd hf
  refine g_cie (wf := (xw cI q)) (S := S) (rest := []) xw_adr hw (g_runVN (rm := ({ frames := 1, cells := 0, slots := 0, locals := 20 } : Room)) (As := [.int x1]) (rest := []) C E hw F_X1_countAbove (ctX1_countAbove l (cI := cI) (D := D) (q := q) S x1 _ hv_2) kmN_X3_65 1 rfl rfl rfl hl.1 rfl (Nat.le_of_ble_eq_true rfl) ⟨(Nat.le_of_ble_eq_true rfl), (Nat.le_of_ble_eq_true rfl)⟩ ⟨(Nat.le_of_ble_eq_true rfl), (Nat.le_of_ble_eq_true rfl)⟩ dX3_tagsAbove_10) (fun H locs hw => ?_)
  exact g_iret C hw (Nat.le_of_ble_eq_true rfl) (Nat.le_of_ble_eq_true rfl) ⟨Option.some.inj hf, rfl⟩ dX3_tagsAbove_13
end
section
/-! DreamLedger.tagsBelow -/
def fX3_tagsBelow (S : St) (x1 : Int32) : Option Int32 :=
  Option.bind (fX3_requireTag S x1) fun z_1 =>
  Option.bind (fX1_countBelow S x1) fun v_2 =>
  some v_2
set_option maxHeartbeats 4000000 in
set_option maxRecDepth 100000 in
theorem ctX3_tagsBelow (l : Launch) {D : va_G} {cI : ClassId} {q : Nat → Nat} (S : St) (x1 : Int32) (sz : Nat) {r1 : Int32} (hf : fX3_tagsBelow S x1 = some r1) : Met l yX3_tagsBelow (Cond.code yX3_tagsBelow cX3_tagsBelow 2 (some .int) :: XALL) ({ frames := 3, cells := 0, slots := 0, locals := 66 } : Room) (va_Pc [.ref (q 0), .int x1] (gPre D cI ((xw cI q) S) sz)) (gQi D (xw cI q) S (fun (r : Int32) (u : St) => r = r1 ∧ u = S) sz) 0 0 (va_A ((xw cI q) S) sz) := by
  unfold fX3_tagsBelow at hf
  refine Met.ofW (cc := cX3_tagsBelow) (maxL := 2) (ret := (some .int)) (by decide) rfl ?_
  intro p e s m args below meth c s₁ B hml hv
  obtain ⟨rfl, hg⟩ := hv
  have C : Ctx p s m _ meth c cX3_tagsBelow 2 RX3 (some .int) := Ctx.of B hml rfl
  obtain ⟨E, hw, hsz⟩ := g_start hg
  subst hsz
  have hl := lv_entry ([.ref (q 0), .int x1]) (n := 2) (Nat.le_of_ble_eq_true rfl)
  rw [lg_entry_eq]
  generalize (lg_sl ([.ref (q 0), .int x1]) ++ List.replicate (2 - (lg_sl ([.ref (q 0), .int x1])).length) Slot.unset).toArray = ls at hl ⊢
  have hl : lv_has ls 2 [(0, .ref (q 0)), (1, .int x1)] := hl
  refine lv_aload_n C.1 C.2.1 dX3_tagsBelow_0 rfl (lv_at hl 0 rfl) ?_
  refine lv_iload_n C.1 C.2.1 dX3_tagsBelow_1 rfl (lv_at hl 1 rfl) ?_
  obtain ⟨z_1, hz_1, hf⟩ := bnd hf
  refine g_cve (wf := (xw cI q)) (S := S) (rest := []) xw_adr hw (g_runV (rm := ({ frames := 0, cells := 0, slots := 0, locals := 0 } : Room)) (As := [.int x1]) (rest := []) C E hw F_X3_requireTag (ctX3_requireTag l (cI := cI) (D := D) (q := q) S x1 _ hz_1) km_X3_76 0 rfl rfl rfl hl.1 rfl (Nat.le_of_ble_eq_true rfl) ⟨(Nat.le_of_ble_eq_true rfl), (Nat.le_of_ble_eq_true rfl)⟩ ⟨(Nat.le_of_ble_eq_true rfl), (Nat.le_of_ble_eq_true rfl)⟩ dX3_tagsBelow_2) (fun H locs hw => ?_)
  refine lv_aload_n C.1 C.2.1 dX3_tagsBelow_5 rfl (lv_at hl 0 rfl) ?_
  refine g_get C E hw inW3 0 rfl rfl 0 (by decide) kf_X3_10 rfl dX3_tagsBelow_6 ?_
  refine lv_iload_n C.1 C.2.1 dX3_tagsBelow_9 rfl (lv_at hl 1 rfl) ?_
  obtain ⟨v_2, hv_2, hf⟩ := bnd hf
  refine g_cie (wf := (xw cI q)) (S := S) (rest := []) xw_adr hw (g_runVN (rm := ({ frames := 2, cells := 0, slots := 0, locals := 43 } : Room)) (As := [.int x1]) (rest := []) C E hw F_X1_countBelow (ctX1_countBelow l (cI := cI) (D := D) (q := q) S x1 _ hv_2) kmN_X3_136 1 rfl rfl rfl hl.1 rfl (Nat.le_of_ble_eq_true rfl) ⟨(Nat.le_of_ble_eq_true rfl), (Nat.le_of_ble_eq_true rfl)⟩ ⟨(Nat.le_of_ble_eq_true rfl), (Nat.le_of_ble_eq_true rfl)⟩ dX3_tagsBelow_10) (fun H locs hw => ?_)
  exact g_iret C hw (Nat.le_of_ble_eq_true rfl) (Nat.le_of_ble_eq_true rfl) ⟨Option.some.inj hf, rfl⟩ dX3_tagsBelow_13
/-! DreamLedger.isBelow -/
def fX3_isBelow (S : St) (x1 : Int32) (x2 : Int32) : Option Int32 :=
  Option.bind (fX3_requireTag S x1) fun z_1 =>
  Option.bind (fX3_requireTag S x2) fun z_2 =>
  Option.bind (fX1_standsBelow S x1 x2) fun v_3 =>
  Option.bind (zg v_3) fun v_4 =>
  some v_4
set_option maxHeartbeats 4000000 in
set_option maxRecDepth 100000 in
theorem ctX3_isBelow (l : Launch) {D : va_G} {cI : ClassId} {q : Nat → Nat} (S : St) (x1 : Int32) (x2 : Int32) (sz : Nat) {r1 : Int32} (hf : fX3_isBelow S x1 x2 = some r1) : Met l yX3_isBelow (Cond.code yX3_isBelow cX3_isBelow 3 (some .boolean) :: XALL) ({ frames := 2, cells := 0, slots := 0, locals := 43 } : Room) (va_Pc [.ref (q 0), .int x1, .int x2] (gPre D cI ((xw cI q) S) sz)) (gQi D (xw cI q) S (fun (r : Int32) (u : St) => r = r1 ∧ u = S) sz) 0 0 (va_A ((xw cI q) S) sz) := by
  unfold fX3_isBelow at hf
  refine Met.ofW (cc := cX3_isBelow) (maxL := 3) (ret := (some .boolean)) (by decide) rfl ?_
  intro p e s m args below meth c s₁ B hml hv
  obtain ⟨rfl, hg⟩ := hv
  have C : Ctx p s m _ meth c cX3_isBelow 3 RX3 (some .boolean) := Ctx.of B hml rfl
  obtain ⟨E, hw, hsz⟩ := g_start hg
  subst hsz
  have hl := lv_entry ([.ref (q 0), .int x1, .int x2]) (n := 3) (Nat.le_of_ble_eq_true rfl)
  rw [lg_entry_eq]
  generalize (lg_sl ([.ref (q 0), .int x1, .int x2]) ++ List.replicate (3 - (lg_sl ([.ref (q 0), .int x1, .int x2])).length) Slot.unset).toArray = ls at hl ⊢
  have hl : lv_has ls 3 [(0, .ref (q 0)), (1, .int x1), (2, .int x2)] := hl
  refine lv_aload_n C.1 C.2.1 dX3_isBelow_0 rfl (lv_at hl 0 rfl) ?_
  refine lv_iload_n C.1 C.2.1 dX3_isBelow_1 rfl (lv_at hl 1 rfl) ?_
  obtain ⟨z_1, hz_1, hf⟩ := bnd hf
  refine g_cve (wf := (xw cI q)) (S := S) (rest := []) xw_adr hw (g_runV (rm := ({ frames := 0, cells := 0, slots := 0, locals := 0 } : Room)) (As := [.int x1]) (rest := []) C E hw F_X3_requireTag (ctX3_requireTag l (cI := cI) (D := D) (q := q) S x1 _ hz_1) km_X3_76 0 rfl rfl rfl hl.1 rfl (Nat.le_of_ble_eq_true rfl) ⟨(Nat.le_of_ble_eq_true rfl), (Nat.le_of_ble_eq_true rfl)⟩ ⟨(Nat.le_of_ble_eq_true rfl), (Nat.le_of_ble_eq_true rfl)⟩ dX3_isBelow_2) (fun H locs hw => ?_)
  refine lv_aload_n C.1 C.2.1 dX3_isBelow_5 rfl (lv_at hl 0 rfl) ?_
  refine lv_iload_n C.1 C.2.1 dX3_isBelow_6 rfl (lv_at hl 2 rfl) ?_
  obtain ⟨z_2, hz_2, hf⟩ := bnd hf
  refine g_cve (wf := (xw cI q)) (S := S) (rest := []) xw_adr hw (g_runV (rm := ({ frames := 0, cells := 0, slots := 0, locals := 0 } : Room)) (As := [.int x2]) (rest := []) C E hw F_X3_requireTag (ctX3_requireTag l (cI := cI) (D := D) (q := q) S x2 _ hz_2) km_X3_76 0 rfl rfl rfl hl.1 rfl (Nat.le_of_ble_eq_true rfl) ⟨(Nat.le_of_ble_eq_true rfl), (Nat.le_of_ble_eq_true rfl)⟩ ⟨(Nat.le_of_ble_eq_true rfl), (Nat.le_of_ble_eq_true rfl)⟩ dX3_isBelow_7) (fun H locs hw => ?_)
  refine lv_aload_n C.1 C.2.1 dX3_isBelow_10 rfl (lv_at hl 0 rfl) ?_
  refine g_get C E hw inW3 0 rfl rfl 0 (by decide) kf_X3_10 rfl dX3_isBelow_11 ?_
  refine lv_iload_n C.1 C.2.1 dX3_isBelow_14 rfl (lv_at hl 1 rfl) ?_
  refine lv_iload_n C.1 C.2.1 dX3_isBelow_15 rfl (lv_at hl 2 rfl) ?_
  obtain ⟨v_3, hv_3, hf⟩ := bnd hf
  refine g_cie (wf := (xw cI q)) (S := S) (rest := []) xw_adr hw (g_runVN (rm := ({ frames := 1, cells := 0, slots := 0, locals := 21 } : Room)) (As := [.int x1, .int x2]) (rest := []) C E hw F_X1_standsBelow (ctX1_standsBelow l (cI := cI) (D := D) (q := q) S x1 x2 _ hv_3) kmN_X3_139 1 rfl rfl rfl hl.1 rfl (Nat.le_of_ble_eq_true rfl) ⟨(Nat.le_of_ble_eq_true rfl), (Nat.le_of_ble_eq_true rfl)⟩ ⟨(Nat.le_of_ble_eq_true rfl), (Nat.le_of_ble_eq_true rfl)⟩ dX3_isBelow_16) (fun H locs hw => ?_)
  obtain ⟨v_4, hv_4, hf⟩ := bnd hf
  rw [(zg_some hv_4).1]
  exact g_zret C hw (Nat.le_of_ble_eq_true rfl) (Nat.le_of_ble_eq_true rfl) (zg_some hv_4).2 ⟨Option.some.inj hf, rfl⟩ dX3_isBelow_19
/-! DreamLedger.nearestAbove -/
def fX3_nearestAbove (S : St) (x1 : Int32) (x2 : Int32) : Option Int32 :=
  Option.bind (fX3_requireTag S x1) fun z_1 =>
  Option.bind (fX3_requireTag S x2) fun z_2 =>
  Option.bind (ld S 5 16 x1) fun v_3 =>
  Option.bind (ld S 5 16 x2) fun v_4 =>
  Option.bind (fX1_lowestOf S (v_3 &&& v_4)) fun v_5 =>
  some v_5
set_option maxHeartbeats 4000000 in
set_option maxRecDepth 100000 in
theorem ctX3_nearestAbove (l : Launch) {D : va_G} {cI : ClassId} {q : Nat → Nat} (S : St) (x1 : Int32) (x2 : Int32) (sz : Nat) {r1 : Int32} (hf : fX3_nearestAbove S x1 x2 = some r1) : Met l yX3_nearestAbove (Cond.code yX3_nearestAbove cX3_nearestAbove 3 (some .int) :: XALL) ({ frames := 3, cells := 0, slots := 0, locals := 65 } : Room) (va_Pc [.ref (q 0), .int x1, .int x2] (gPre D cI ((xw cI q) S) sz)) (gQi D (xw cI q) S (fun (r : Int32) (u : St) => r = r1 ∧ u = S) sz) 0 0 (va_A ((xw cI q) S) sz) := by
  unfold fX3_nearestAbove at hf
  refine Met.ofW (cc := cX3_nearestAbove) (maxL := 3) (ret := (some .int)) (by decide) rfl ?_
  intro p e s m args below meth c s₁ B hml hv
  obtain ⟨rfl, hg⟩ := hv
  have C : Ctx p s m _ meth c cX3_nearestAbove 3 RX3 (some .int) := Ctx.of B hml rfl
  obtain ⟨E, hw, hsz⟩ := g_start hg
  subst hsz
  have hl := lv_entry ([.ref (q 0), .int x1, .int x2]) (n := 3) (Nat.le_of_ble_eq_true rfl)
  rw [lg_entry_eq]
  generalize (lg_sl ([.ref (q 0), .int x1, .int x2]) ++ List.replicate (3 - (lg_sl ([.ref (q 0), .int x1, .int x2])).length) Slot.unset).toArray = ls at hl ⊢
  have hl : lv_has ls 3 [(0, .ref (q 0)), (1, .int x1), (2, .int x2)] := hl
  refine lv_aload_n C.1 C.2.1 dX3_nearestAbove_0 rfl (lv_at hl 0 rfl) ?_
  refine lv_iload_n C.1 C.2.1 dX3_nearestAbove_1 rfl (lv_at hl 1 rfl) ?_
  obtain ⟨z_1, hz_1, hf⟩ := bnd hf
  refine g_cve (wf := (xw cI q)) (S := S) (rest := []) xw_adr hw (g_runV (rm := ({ frames := 0, cells := 0, slots := 0, locals := 0 } : Room)) (As := [.int x1]) (rest := []) C E hw F_X3_requireTag (ctX3_requireTag l (cI := cI) (D := D) (q := q) S x1 _ hz_1) km_X3_76 0 rfl rfl rfl hl.1 rfl (Nat.le_of_ble_eq_true rfl) ⟨(Nat.le_of_ble_eq_true rfl), (Nat.le_of_ble_eq_true rfl)⟩ ⟨(Nat.le_of_ble_eq_true rfl), (Nat.le_of_ble_eq_true rfl)⟩ dX3_nearestAbove_2) (fun H locs hw => ?_)
  refine lv_aload_n C.1 C.2.1 dX3_nearestAbove_5 rfl (lv_at hl 0 rfl) ?_
  refine lv_iload_n C.1 C.2.1 dX3_nearestAbove_6 rfl (lv_at hl 2 rfl) ?_
  obtain ⟨z_2, hz_2, hf⟩ := bnd hf
  refine g_cve (wf := (xw cI q)) (S := S) (rest := []) xw_adr hw (g_runV (rm := ({ frames := 0, cells := 0, slots := 0, locals := 0 } : Room)) (As := [.int x2]) (rest := []) C E hw F_X3_requireTag (ctX3_requireTag l (cI := cI) (D := D) (q := q) S x2 _ hz_2) km_X3_76 0 rfl rfl rfl hl.1 rfl (Nat.le_of_ble_eq_true rfl) ⟨(Nat.le_of_ble_eq_true rfl), (Nat.le_of_ble_eq_true rfl)⟩ ⟨(Nat.le_of_ble_eq_true rfl), (Nat.le_of_ble_eq_true rfl)⟩ dX3_nearestAbove_7) (fun H locs hw => ?_)
  refine lv_aload_n C.1 C.2.1 dX3_nearestAbove_10 rfl (lv_at hl 0 rfl) ?_
  refine g_get C E hw inW3 0 rfl rfl 0 (by decide) kf_X3_10 rfl dX3_nearestAbove_11 ?_
  refine lv_aload_n C.1 C.2.1 dX3_nearestAbove_14 rfl (lv_at hl 0 rfl) ?_
  refine g_get C E hw inW3 0 rfl rfl 0 (by decide) kf_X3_10 rfl dX3_nearestAbove_15 ?_
  refine g_getN C E hw inW1 1 rfl rfl 1 (by decide) kfN_X3_142 rfl dX3_nearestAbove_18 ?_
  refine lv_iload_n C.1 C.2.1 dX3_nearestAbove_21 rfl (lv_at hl 1 rfl) ?_
  obtain ⟨v_3, hv_3, hf⟩ := bnd hf
  refine g_ald C E hw 9 rfl (ld_some hv_3) dX3_nearestAbove_22 ?_
  refine lv_aload_n C.1 C.2.1 dX3_nearestAbove_23 rfl (lv_at hl 0 rfl) ?_
  refine g_get C E hw inW3 0 rfl rfl 0 (by decide) kf_X3_10 rfl dX3_nearestAbove_24 ?_
  refine g_getN C E hw inW1 1 rfl rfl 1 (by decide) kfN_X3_142 rfl dX3_nearestAbove_27 ?_
  refine lv_iload_n C.1 C.2.1 dX3_nearestAbove_30 rfl (lv_at hl 2 rfl) ?_
  obtain ⟨v_4, hv_4, hf⟩ := bnd hf
  refine g_ald C E hw 9 rfl (ld_some hv_4) dX3_nearestAbove_31 ?_
  refine lv_iand C.1 C.2.1 dX3_nearestAbove_32 ?_
  obtain ⟨v_5, hv_5, hf⟩ := bnd hf
  refine g_cie (wf := (xw cI q)) (S := S) (rest := []) xw_adr hw (g_runVN (rm := ({ frames := 2, cells := 0, slots := 0, locals := 41 } : Room)) (As := [.int (v_3 &&& v_4)]) (rest := []) C E hw F_X1_lowestOf (ctX1_lowestOf l (cI := cI) (D := D) (q := q) S (v_3 &&& v_4) _ hv_5) kmN_X3_145 1 rfl rfl rfl hl.1 rfl (Nat.le_of_ble_eq_true rfl) ⟨(Nat.le_of_ble_eq_true rfl), (Nat.le_of_ble_eq_true rfl)⟩ ⟨(Nat.le_of_ble_eq_true rfl), (Nat.le_of_ble_eq_true rfl)⟩ dX3_nearestAbove_33) (fun H locs hw => ?_)
  exact g_iret C hw (Nat.le_of_ble_eq_true rfl) (Nat.le_of_ble_eq_true rfl) ⟨Option.some.inj hf, rfl⟩ dX3_nearestAbove_36
/-! DreamLedger.dreamsWith -/
def fX3_dreamsWith (S : St) (x1 : Int32) : Option Int32 :=
  Option.bind (fX3_requireTag S x1) fun z_1 =>
  Option.bind (fX3_dreamsHaving S x1) fun v_2 =>
  Option.bind (fJ6_bitCount_0f7a4 v_2) fun v_3 =>
  some v_3
set_option maxHeartbeats 4000000 in
set_option maxRecDepth 100000 in
theorem ctX3_dreamsWith (l : Launch) {D : va_G} {cI : ClassId} {q : Nat → Nat} (S : St) (x1 : Int32) (sz : Nat) {r1 : Int32} (hf : fX3_dreamsWith S x1 = some r1) : Met l yX3_dreamsWith (Cond.code yX3_dreamsWith cX3_dreamsWith 2 (some .int) :: XALL) ({ frames := 2, cells := 0, slots := 0, locals := 44 } : Room) (va_Pc [.ref (q 0), .int x1] (gPre D cI ((xw cI q) S) sz)) (gQi D (xw cI q) S (fun (r : Int32) (u : St) => r = r1 ∧ u = S) sz) 0 0 (va_A ((xw cI q) S) sz) := by
  unfold fX3_dreamsWith at hf
  refine Met.ofW (cc := cX3_dreamsWith) (maxL := 2) (ret := (some .int)) (by decide) rfl ?_
  intro p e s m args below meth c s₁ B hml hv
  obtain ⟨rfl, hg⟩ := hv
  have C : Ctx p s m _ meth c cX3_dreamsWith 2 RX3 (some .int) := Ctx.of B hml rfl
  obtain ⟨E, hw, hsz⟩ := g_start hg
  subst hsz
  have hl := lv_entry ([.ref (q 0), .int x1]) (n := 2) (Nat.le_of_ble_eq_true rfl)
  rw [lg_entry_eq]
  generalize (lg_sl ([.ref (q 0), .int x1]) ++ List.replicate (2 - (lg_sl ([.ref (q 0), .int x1])).length) Slot.unset).toArray = ls at hl ⊢
  have hl : lv_has ls 2 [(0, .ref (q 0)), (1, .int x1)] := hl
  refine lv_aload_n C.1 C.2.1 dX3_dreamsWith_0 rfl (lv_at hl 0 rfl) ?_
  refine lv_iload_n C.1 C.2.1 dX3_dreamsWith_1 rfl (lv_at hl 1 rfl) ?_
  obtain ⟨z_1, hz_1, hf⟩ := bnd hf
  refine g_cve (wf := (xw cI q)) (S := S) (rest := []) xw_adr hw (g_runV (rm := ({ frames := 0, cells := 0, slots := 0, locals := 0 } : Room)) (As := [.int x1]) (rest := []) C E hw F_X3_requireTag (ctX3_requireTag l (cI := cI) (D := D) (q := q) S x1 _ hz_1) km_X3_76 0 rfl rfl rfl hl.1 rfl (Nat.le_of_ble_eq_true rfl) ⟨(Nat.le_of_ble_eq_true rfl), (Nat.le_of_ble_eq_true rfl)⟩ ⟨(Nat.le_of_ble_eq_true rfl), (Nat.le_of_ble_eq_true rfl)⟩ dX3_dreamsWith_2) (fun H locs hw => ?_)
  refine lv_aload_n C.1 C.2.1 dX3_dreamsWith_5 rfl (lv_at hl 0 rfl) ?_
  refine lv_iload_n C.1 C.2.1 dX3_dreamsWith_6 rfl (lv_at hl 1 rfl) ?_
  obtain ⟨v_2, hv_2, hf⟩ := bnd hf
  refine g_cie (wf := (xw cI q)) (S := S) (rest := []) xw_adr hw (g_runV (rm := ({ frames := 1, cells := 0, slots := 0, locals := 21 } : Room)) (As := [.int x1]) (rest := []) C E hw F_X3_dreamsHaving (ctX3_dreamsHaving l (cI := cI) (D := D) (q := q) S x1 _ hv_2) km_X3_148 0 rfl rfl rfl hl.1 rfl (Nat.le_of_ble_eq_true rfl) ⟨(Nat.le_of_ble_eq_true rfl), (Nat.le_of_ble_eq_true rfl)⟩ ⟨(Nat.le_of_ble_eq_true rfl), (Nat.le_of_ble_eq_true rfl)⟩ dX3_dreamsWith_7) (fun H locs hw => ?_)
  obtain ⟨v_3, hv_3, hf⟩ := bnd hf
  refine g_ci0e (rest := []) hw (g_run0 (rm := ({ frames := 0, cells := 0, slots := 0, locals := 0 } : Room)) (As := [.int v_2]) (rest := []) C F_J6_bitCount_0f7a4 (ctJ6_bitCount_0f7a4 l v_2 hv_3) km_X3_104 rfl hl.1 rfl (Nat.le_of_ble_eq_true rfl) ⟨(Nat.le_of_ble_eq_true rfl), (Nat.le_of_ble_eq_true rfl)⟩ ⟨(Nat.le_of_ble_eq_true rfl), (Nat.le_of_ble_eq_true rfl)⟩ dX3_dreamsWith_10) (fun H locs hw => ?_)
  exact g_iret C hw (Nat.le_of_ble_eq_true rfl) (Nat.le_of_ble_eq_true rfl) ⟨Option.some.inj hf, rfl⟩ dX3_dreamsWith_13
/-! DreamLedger.hasOwnTag -/
def fX3_hasOwnTag (S : St) (x1 : Int32) (x2 : Int32) : Option Int32 :=
  Option.bind (fX3_requireDream S x1) fun z_1 =>
  Option.bind (fX3_requireTag S x2) fun z_2 =>
  Option.bind (ld S 0 24 x1) fun v_3 =>
  Option.bind (fX3_isIn x2 v_3) fun v_4 =>
  Option.bind (zg v_4) fun v_5 =>
  some v_5
set_option maxHeartbeats 4000000 in
set_option maxRecDepth 100000 in
theorem ctX3_hasOwnTag (l : Launch) {D : va_G} {cI : ClassId} {q : Nat → Nat} (S : St) (x1 : Int32) (x2 : Int32) (sz : Nat) {r1 : Int32} (hf : fX3_hasOwnTag S x1 x2 = some r1) : Met l yX3_hasOwnTag (Cond.code yX3_hasOwnTag cX3_hasOwnTag 3 (some .boolean) :: XALL) ({ frames := 1, cells := 0, slots := 0, locals := 21 } : Room) (va_Pc [.ref (q 0), .int x1, .int x2] (gPre D cI ((xw cI q) S) sz)) (gQi D (xw cI q) S (fun (r : Int32) (u : St) => r = r1 ∧ u = S) sz) 0 0 (va_A ((xw cI q) S) sz) := by
  unfold fX3_hasOwnTag at hf
  refine Met.ofW (cc := cX3_hasOwnTag) (maxL := 3) (ret := (some .boolean)) (by decide) rfl ?_
  intro p e s m args below meth c s₁ B hml hv
  obtain ⟨rfl, hg⟩ := hv
  have C : Ctx p s m _ meth c cX3_hasOwnTag 3 RX3 (some .boolean) := Ctx.of B hml rfl
  obtain ⟨E, hw, hsz⟩ := g_start hg
  subst hsz
  have hl := lv_entry ([.ref (q 0), .int x1, .int x2]) (n := 3) (Nat.le_of_ble_eq_true rfl)
  rw [lg_entry_eq]
  generalize (lg_sl ([.ref (q 0), .int x1, .int x2]) ++ List.replicate (3 - (lg_sl ([.ref (q 0), .int x1, .int x2])).length) Slot.unset).toArray = ls at hl ⊢
  have hl : lv_has ls 3 [(0, .ref (q 0)), (1, .int x1), (2, .int x2)] := hl
  refine lv_aload_n C.1 C.2.1 dX3_hasOwnTag_0 rfl (lv_at hl 0 rfl) ?_
  refine lv_iload_n C.1 C.2.1 dX3_hasOwnTag_1 rfl (lv_at hl 1 rfl) ?_
  obtain ⟨z_1, hz_1, hf⟩ := bnd hf
  refine g_cve (wf := (xw cI q)) (S := S) (rest := []) xw_adr hw (g_runV (rm := ({ frames := 0, cells := 0, slots := 0, locals := 0 } : Room)) (As := [.int x1]) (rest := []) C E hw F_X3_requireDream (ctX3_requireDream l (cI := cI) (D := D) (q := q) S x1 _ hz_1) km_X3_95 0 rfl rfl rfl hl.1 rfl (Nat.le_of_ble_eq_true rfl) ⟨(Nat.le_of_ble_eq_true rfl), (Nat.le_of_ble_eq_true rfl)⟩ ⟨(Nat.le_of_ble_eq_true rfl), (Nat.le_of_ble_eq_true rfl)⟩ dX3_hasOwnTag_2) (fun H locs hw => ?_)
  refine lv_aload_n C.1 C.2.1 dX3_hasOwnTag_5 rfl (lv_at hl 0 rfl) ?_
  refine lv_iload_n C.1 C.2.1 dX3_hasOwnTag_6 rfl (lv_at hl 2 rfl) ?_
  obtain ⟨z_2, hz_2, hf⟩ := bnd hf
  refine g_cve (wf := (xw cI q)) (S := S) (rest := []) xw_adr hw (g_runV (rm := ({ frames := 0, cells := 0, slots := 0, locals := 0 } : Room)) (As := [.int x2]) (rest := []) C E hw F_X3_requireTag (ctX3_requireTag l (cI := cI) (D := D) (q := q) S x2 _ hz_2) km_X3_76 0 rfl rfl rfl hl.1 rfl (Nat.le_of_ble_eq_true rfl) ⟨(Nat.le_of_ble_eq_true rfl), (Nat.le_of_ble_eq_true rfl)⟩ ⟨(Nat.le_of_ble_eq_true rfl), (Nat.le_of_ble_eq_true rfl)⟩ dX3_hasOwnTag_7) (fun H locs hw => ?_)
  refine lv_iload_n C.1 C.2.1 dX3_hasOwnTag_10 rfl (lv_at hl 2 rfl) ?_
  refine lv_aload_n C.1 C.2.1 dX3_hasOwnTag_11 rfl (lv_at hl 0 rfl) ?_
  refine g_get C E hw inW3 0 rfl rfl 3 (by decide) kf_X3_30 rfl dX3_hasOwnTag_12 ?_
  refine lv_iload_n C.1 C.2.1 dX3_hasOwnTag_15 rfl (lv_at hl 1 rfl) ?_
  obtain ⟨v_3, hv_3, hf⟩ := bnd hf
  refine g_ald C E hw 4 rfl (ld_some hv_3) dX3_hasOwnTag_16 ?_
  obtain ⟨v_4, hv_4, hf⟩ := bnd hf
  refine g_ci0e (rest := []) hw (g_run0 (rm := ({ frames := 0, cells := 0, slots := 0, locals := 0 } : Room)) (As := [.int x2, .int v_3]) (rest := []) C F_X3_isIn (ctX3_isIn l x2 v_3 hv_4) km_X3_98 rfl hl.1 rfl (Nat.le_of_ble_eq_true rfl) ⟨(Nat.le_of_ble_eq_true rfl), (Nat.le_of_ble_eq_true rfl)⟩ ⟨(Nat.le_of_ble_eq_true rfl), (Nat.le_of_ble_eq_true rfl)⟩ dX3_hasOwnTag_17) (fun H locs hw => ?_)
  obtain ⟨v_5, hv_5, hf⟩ := bnd hf
  rw [(zg_some hv_5).1]
  exact g_zret C hw (Nat.le_of_ble_eq_true rfl) (Nat.le_of_ble_eq_true rfl) (zg_some hv_5).2 ⟨Option.some.inj hf, rfl⟩ dX3_hasOwnTag_20
/-! DreamLedger.hasTag -/
def fX3_hasTag (S : St) (x1 : Int32) (x2 : Int32) : Option Int32 :=
  Option.bind (fX3_requireDream S x1) fun z_1 =>
  Option.bind (fX3_requireTag S x2) fun z_2 =>
  Option.bind (ld S 1 24 x1) fun v_3 =>
  Option.bind (fX3_isIn x2 v_3) fun v_4 =>
  Option.bind (zg v_4) fun v_5 =>
  some v_5
set_option maxHeartbeats 4000000 in
set_option maxRecDepth 100000 in
theorem ctX3_hasTag (l : Launch) {D : va_G} {cI : ClassId} {q : Nat → Nat} (S : St) (x1 : Int32) (x2 : Int32) (sz : Nat) {r1 : Int32} (hf : fX3_hasTag S x1 x2 = some r1) : Met l yX3_hasTag (Cond.code yX3_hasTag cX3_hasTag 3 (some .boolean) :: XALL) ({ frames := 1, cells := 0, slots := 0, locals := 21 } : Room) (va_Pc [.ref (q 0), .int x1, .int x2] (gPre D cI ((xw cI q) S) sz)) (gQi D (xw cI q) S (fun (r : Int32) (u : St) => r = r1 ∧ u = S) sz) 0 0 (va_A ((xw cI q) S) sz) := by
  unfold fX3_hasTag at hf
  refine Met.ofW (cc := cX3_hasTag) (maxL := 3) (ret := (some .boolean)) (by decide) rfl ?_
  intro p e s m args below meth c s₁ B hml hv
  obtain ⟨rfl, hg⟩ := hv
  have C : Ctx p s m _ meth c cX3_hasTag 3 RX3 (some .boolean) := Ctx.of B hml rfl
  obtain ⟨E, hw, hsz⟩ := g_start hg
  subst hsz
  have hl := lv_entry ([.ref (q 0), .int x1, .int x2]) (n := 3) (Nat.le_of_ble_eq_true rfl)
  rw [lg_entry_eq]
  generalize (lg_sl ([.ref (q 0), .int x1, .int x2]) ++ List.replicate (3 - (lg_sl ([.ref (q 0), .int x1, .int x2])).length) Slot.unset).toArray = ls at hl ⊢
  have hl : lv_has ls 3 [(0, .ref (q 0)), (1, .int x1), (2, .int x2)] := hl
  refine lv_aload_n C.1 C.2.1 dX3_hasTag_0 rfl (lv_at hl 0 rfl) ?_
  refine lv_iload_n C.1 C.2.1 dX3_hasTag_1 rfl (lv_at hl 1 rfl) ?_
  obtain ⟨z_1, hz_1, hf⟩ := bnd hf
  refine g_cve (wf := (xw cI q)) (S := S) (rest := []) xw_adr hw (g_runV (rm := ({ frames := 0, cells := 0, slots := 0, locals := 0 } : Room)) (As := [.int x1]) (rest := []) C E hw F_X3_requireDream (ctX3_requireDream l (cI := cI) (D := D) (q := q) S x1 _ hz_1) km_X3_95 0 rfl rfl rfl hl.1 rfl (Nat.le_of_ble_eq_true rfl) ⟨(Nat.le_of_ble_eq_true rfl), (Nat.le_of_ble_eq_true rfl)⟩ ⟨(Nat.le_of_ble_eq_true rfl), (Nat.le_of_ble_eq_true rfl)⟩ dX3_hasTag_2) (fun H locs hw => ?_)
  refine lv_aload_n C.1 C.2.1 dX3_hasTag_5 rfl (lv_at hl 0 rfl) ?_
  refine lv_iload_n C.1 C.2.1 dX3_hasTag_6 rfl (lv_at hl 2 rfl) ?_
  obtain ⟨z_2, hz_2, hf⟩ := bnd hf
  refine g_cve (wf := (xw cI q)) (S := S) (rest := []) xw_adr hw (g_runV (rm := ({ frames := 0, cells := 0, slots := 0, locals := 0 } : Room)) (As := [.int x2]) (rest := []) C E hw F_X3_requireTag (ctX3_requireTag l (cI := cI) (D := D) (q := q) S x2 _ hz_2) km_X3_76 0 rfl rfl rfl hl.1 rfl (Nat.le_of_ble_eq_true rfl) ⟨(Nat.le_of_ble_eq_true rfl), (Nat.le_of_ble_eq_true rfl)⟩ ⟨(Nat.le_of_ble_eq_true rfl), (Nat.le_of_ble_eq_true rfl)⟩ dX3_hasTag_7) (fun H locs hw => ?_)
  refine lv_iload_n C.1 C.2.1 dX3_hasTag_10 rfl (lv_at hl 2 rfl) ?_
  refine lv_aload_n C.1 C.2.1 dX3_hasTag_11 rfl (lv_at hl 0 rfl) ?_
  refine g_get C E hw inW3 0 rfl rfl 4 (by decide) kf_X3_34 rfl dX3_hasTag_12 ?_
  refine lv_iload_n C.1 C.2.1 dX3_hasTag_15 rfl (lv_at hl 1 rfl) ?_
  obtain ⟨v_3, hv_3, hf⟩ := bnd hf
  refine g_ald C E hw 5 rfl (ld_some hv_3) dX3_hasTag_16 ?_
  obtain ⟨v_4, hv_4, hf⟩ := bnd hf
  refine g_ci0e (rest := []) hw (g_run0 (rm := ({ frames := 0, cells := 0, slots := 0, locals := 0 } : Room)) (As := [.int x2, .int v_3]) (rest := []) C F_X3_isIn (ctX3_isIn l x2 v_3 hv_4) km_X3_98 rfl hl.1 rfl (Nat.le_of_ble_eq_true rfl) ⟨(Nat.le_of_ble_eq_true rfl), (Nat.le_of_ble_eq_true rfl)⟩ ⟨(Nat.le_of_ble_eq_true rfl), (Nat.le_of_ble_eq_true rfl)⟩ dX3_hasTag_17) (fun H locs hw => ?_)
  obtain ⟨v_5, hv_5, hf⟩ := bnd hf
  rw [(zg_some hv_5).1]
  exact g_zret C hw (Nat.le_of_ble_eq_true rfl) (Nat.le_of_ble_eq_true rfl) (zg_some hv_5).2 ⟨Option.some.inj hf, rfl⟩ dX3_hasTag_20
/-! DreamLedger.tagsOf -/
def fX3_tagsOf (S : St) (x1 : Int32) : Option Int32 :=
  Option.bind (fX3_requireDream S x1) fun z_1 =>
  Option.bind (ld S 1 24 x1) fun v_2 =>
  Option.bind (fJ6_bitCount_0f7a4 v_2) fun v_3 =>
  some v_3
set_option maxHeartbeats 4000000 in
set_option maxRecDepth 100000 in
theorem ctX3_tagsOf (l : Launch) {D : va_G} {cI : ClassId} {q : Nat → Nat} (S : St) (x1 : Int32) (sz : Nat) {r1 : Int32} (hf : fX3_tagsOf S x1 = some r1) : Met l yX3_tagsOf (Cond.code yX3_tagsOf cX3_tagsOf 2 (some .int) :: XALL) ({ frames := 1, cells := 0, slots := 0, locals := 21 } : Room) (va_Pc [.ref (q 0), .int x1] (gPre D cI ((xw cI q) S) sz)) (gQi D (xw cI q) S (fun (r : Int32) (u : St) => r = r1 ∧ u = S) sz) 0 0 (va_A ((xw cI q) S) sz) := by
  unfold fX3_tagsOf at hf
  refine Met.ofW (cc := cX3_tagsOf) (maxL := 2) (ret := (some .int)) (by decide) rfl ?_
  intro p e s m args below meth c s₁ B hml hv
  obtain ⟨rfl, hg⟩ := hv
  have C : Ctx p s m _ meth c cX3_tagsOf 2 RX3 (some .int) := Ctx.of B hml rfl
  obtain ⟨E, hw, hsz⟩ := g_start hg
  subst hsz
  have hl := lv_entry ([.ref (q 0), .int x1]) (n := 2) (Nat.le_of_ble_eq_true rfl)
  rw [lg_entry_eq]
  generalize (lg_sl ([.ref (q 0), .int x1]) ++ List.replicate (2 - (lg_sl ([.ref (q 0), .int x1])).length) Slot.unset).toArray = ls at hl ⊢
  have hl : lv_has ls 2 [(0, .ref (q 0)), (1, .int x1)] := hl
  refine lv_aload_n C.1 C.2.1 dX3_tagsOf_0 rfl (lv_at hl 0 rfl) ?_
  refine lv_iload_n C.1 C.2.1 dX3_tagsOf_1 rfl (lv_at hl 1 rfl) ?_
  obtain ⟨z_1, hz_1, hf⟩ := bnd hf
  refine g_cve (wf := (xw cI q)) (S := S) (rest := []) xw_adr hw (g_runV (rm := ({ frames := 0, cells := 0, slots := 0, locals := 0 } : Room)) (As := [.int x1]) (rest := []) C E hw F_X3_requireDream (ctX3_requireDream l (cI := cI) (D := D) (q := q) S x1 _ hz_1) km_X3_95 0 rfl rfl rfl hl.1 rfl (Nat.le_of_ble_eq_true rfl) ⟨(Nat.le_of_ble_eq_true rfl), (Nat.le_of_ble_eq_true rfl)⟩ ⟨(Nat.le_of_ble_eq_true rfl), (Nat.le_of_ble_eq_true rfl)⟩ dX3_tagsOf_2) (fun H locs hw => ?_)
  refine lv_aload_n C.1 C.2.1 dX3_tagsOf_5 rfl (lv_at hl 0 rfl) ?_
  refine g_get C E hw inW3 0 rfl rfl 4 (by decide) kf_X3_34 rfl dX3_tagsOf_6 ?_
  refine lv_iload_n C.1 C.2.1 dX3_tagsOf_9 rfl (lv_at hl 1 rfl) ?_
  obtain ⟨v_2, hv_2, hf⟩ := bnd hf
  refine g_ald C E hw 5 rfl (ld_some hv_2) dX3_tagsOf_10 ?_
  obtain ⟨v_3, hv_3, hf⟩ := bnd hf
  refine g_ci0e (rest := []) hw (g_run0 (rm := ({ frames := 0, cells := 0, slots := 0, locals := 0 } : Room)) (As := [.int v_2]) (rest := []) C F_J6_bitCount_0f7a4 (ctJ6_bitCount_0f7a4 l v_2 hv_3) km_X3_104 rfl hl.1 rfl (Nat.le_of_ble_eq_true rfl) ⟨(Nat.le_of_ble_eq_true rfl), (Nat.le_of_ble_eq_true rfl)⟩ ⟨(Nat.le_of_ble_eq_true rfl), (Nat.le_of_ble_eq_true rfl)⟩ dX3_tagsOf_11) (fun H locs hw => ?_)
  exact g_iret C hw (Nat.le_of_ble_eq_true rfl) (Nat.le_of_ble_eq_true rfl) ⟨Option.some.inj hf, rfl⟩ dX3_tagsOf_14
/-! DreamLedger.vividnessOf -/
def fX3_vividnessOf (S : St) (x1 : Int32) : Option Int32 :=
  Option.bind (fX3_requireDream S x1) fun z_1 =>
  Option.bind (ld S 2 24 x1) fun v_2 =>
  some v_2
set_option maxHeartbeats 4000000 in
set_option maxRecDepth 100000 in
theorem ctX3_vividnessOf (l : Launch) {D : va_G} {cI : ClassId} {q : Nat → Nat} (S : St) (x1 : Int32) (sz : Nat) {r1 : Int32} (hf : fX3_vividnessOf S x1 = some r1) : Met l yX3_vividnessOf (Cond.code yX3_vividnessOf cX3_vividnessOf 2 (some .int) :: XALL) ({ frames := 1, cells := 0, slots := 0, locals := 21 } : Room) (va_Pc [.ref (q 0), .int x1] (gPre D cI ((xw cI q) S) sz)) (gQi D (xw cI q) S (fun (r : Int32) (u : St) => r = r1 ∧ u = S) sz) 0 0 (va_A ((xw cI q) S) sz) := by
  unfold fX3_vividnessOf at hf
  refine Met.ofW (cc := cX3_vividnessOf) (maxL := 2) (ret := (some .int)) (by decide) rfl ?_
  intro p e s m args below meth c s₁ B hml hv
  obtain ⟨rfl, hg⟩ := hv
  have C : Ctx p s m _ meth c cX3_vividnessOf 2 RX3 (some .int) := Ctx.of B hml rfl
  obtain ⟨E, hw, hsz⟩ := g_start hg
  subst hsz
  have hl := lv_entry ([.ref (q 0), .int x1]) (n := 2) (Nat.le_of_ble_eq_true rfl)
  rw [lg_entry_eq]
  generalize (lg_sl ([.ref (q 0), .int x1]) ++ List.replicate (2 - (lg_sl ([.ref (q 0), .int x1])).length) Slot.unset).toArray = ls at hl ⊢
  have hl : lv_has ls 2 [(0, .ref (q 0)), (1, .int x1)] := hl
  refine lv_aload_n C.1 C.2.1 dX3_vividnessOf_0 rfl (lv_at hl 0 rfl) ?_
  refine lv_iload_n C.1 C.2.1 dX3_vividnessOf_1 rfl (lv_at hl 1 rfl) ?_
  obtain ⟨z_1, hz_1, hf⟩ := bnd hf
  refine g_cve (wf := (xw cI q)) (S := S) (rest := []) xw_adr hw (g_runV (rm := ({ frames := 0, cells := 0, slots := 0, locals := 0 } : Room)) (As := [.int x1]) (rest := []) C E hw F_X3_requireDream (ctX3_requireDream l (cI := cI) (D := D) (q := q) S x1 _ hz_1) km_X3_95 0 rfl rfl rfl hl.1 rfl (Nat.le_of_ble_eq_true rfl) ⟨(Nat.le_of_ble_eq_true rfl), (Nat.le_of_ble_eq_true rfl)⟩ ⟨(Nat.le_of_ble_eq_true rfl), (Nat.le_of_ble_eq_true rfl)⟩ dX3_vividnessOf_2) (fun H locs hw => ?_)
  refine lv_aload_n C.1 C.2.1 dX3_vividnessOf_5 rfl (lv_at hl 0 rfl) ?_
  refine g_get C E hw inW3 0 rfl rfl 5 (by decide) kf_X3_37 rfl dX3_vividnessOf_6 ?_
  refine lv_iload_n C.1 C.2.1 dX3_vividnessOf_9 rfl (lv_at hl 1 rfl) ?_
  obtain ⟨v_2, hv_2, hf⟩ := bnd hf
  refine g_ald C E hw 6 rfl (ld_some hv_2) dX3_vividnessOf_10 ?_
  exact g_iret C hw (Nat.le_of_ble_eq_true rfl) (Nat.le_of_ble_eq_true rfl) ⟨Option.some.inj hf, rfl⟩ dX3_vividnessOf_11
/-! DreamLedger.nightOf -/
def fX3_nightOf (S : St) (x1 : Int32) : Option Int32 :=
  Option.bind (fX3_requireDream S x1) fun z_1 =>
  Option.bind (ld S 3 24 x1) fun v_2 =>
  some v_2
set_option maxHeartbeats 4000000 in
set_option maxRecDepth 100000 in
theorem ctX3_nightOf (l : Launch) {D : va_G} {cI : ClassId} {q : Nat → Nat} (S : St) (x1 : Int32) (sz : Nat) {r1 : Int32} (hf : fX3_nightOf S x1 = some r1) : Met l yX3_nightOf (Cond.code yX3_nightOf cX3_nightOf 2 (some .int) :: XALL) ({ frames := 1, cells := 0, slots := 0, locals := 21 } : Room) (va_Pc [.ref (q 0), .int x1] (gPre D cI ((xw cI q) S) sz)) (gQi D (xw cI q) S (fun (r : Int32) (u : St) => r = r1 ∧ u = S) sz) 0 0 (va_A ((xw cI q) S) sz) := by
  unfold fX3_nightOf at hf
  refine Met.ofW (cc := cX3_nightOf) (maxL := 2) (ret := (some .int)) (by decide) rfl ?_
  intro p e s m args below meth c s₁ B hml hv
  obtain ⟨rfl, hg⟩ := hv
  have C : Ctx p s m _ meth c cX3_nightOf 2 RX3 (some .int) := Ctx.of B hml rfl
  obtain ⟨E, hw, hsz⟩ := g_start hg
  subst hsz
  have hl := lv_entry ([.ref (q 0), .int x1]) (n := 2) (Nat.le_of_ble_eq_true rfl)
  rw [lg_entry_eq]
  generalize (lg_sl ([.ref (q 0), .int x1]) ++ List.replicate (2 - (lg_sl ([.ref (q 0), .int x1])).length) Slot.unset).toArray = ls at hl ⊢
  have hl : lv_has ls 2 [(0, .ref (q 0)), (1, .int x1)] := hl
  refine lv_aload_n C.1 C.2.1 dX3_nightOf_0 rfl (lv_at hl 0 rfl) ?_
  refine lv_iload_n C.1 C.2.1 dX3_nightOf_1 rfl (lv_at hl 1 rfl) ?_
  obtain ⟨z_1, hz_1, hf⟩ := bnd hf
  refine g_cve (wf := (xw cI q)) (S := S) (rest := []) xw_adr hw (g_runV (rm := ({ frames := 0, cells := 0, slots := 0, locals := 0 } : Room)) (As := [.int x1]) (rest := []) C E hw F_X3_requireDream (ctX3_requireDream l (cI := cI) (D := D) (q := q) S x1 _ hz_1) km_X3_95 0 rfl rfl rfl hl.1 rfl (Nat.le_of_ble_eq_true rfl) ⟨(Nat.le_of_ble_eq_true rfl), (Nat.le_of_ble_eq_true rfl)⟩ ⟨(Nat.le_of_ble_eq_true rfl), (Nat.le_of_ble_eq_true rfl)⟩ dX3_nightOf_2) (fun H locs hw => ?_)
  refine lv_aload_n C.1 C.2.1 dX3_nightOf_5 rfl (lv_at hl 0 rfl) ?_
  refine g_get C E hw inW3 0 rfl rfl 6 (by decide) kf_X3_40 rfl dX3_nightOf_6 ?_
  refine lv_iload_n C.1 C.2.1 dX3_nightOf_9 rfl (lv_at hl 1 rfl) ?_
  obtain ⟨v_2, hv_2, hf⟩ := bnd hf
  refine g_ald C E hw 7 rfl (ld_some hv_2) dX3_nightOf_10 ?_
  exact g_iret C hw (Nat.le_of_ble_eq_true rfl) (Nat.le_of_ble_eq_true rfl) ⟨Option.some.inj hf, rfl⟩ dX3_nightOf_11
/-! DreamLedger.matches -/
def fX3_matches (S : St) (x1 : Int32) (x2 : Int32) : Option Int32 :=
  Option.bind (fX3_requireTerm S x1) fun z_1 =>
  Option.bind (fX3_requireDream S x2) fun z_2 =>
  Option.bind (ld S 9 20 x1) fun v_3 =>
  Option.bind (fX3_isIn x2 v_3) fun v_4 =>
  Option.bind (zg v_4) fun v_5 =>
  some v_5
set_option maxHeartbeats 4000000 in
set_option maxRecDepth 100000 in
theorem ctX3_matches (l : Launch) {D : va_G} {cI : ClassId} {q : Nat → Nat} (S : St) (x1 : Int32) (x2 : Int32) (sz : Nat) {r1 : Int32} (hf : fX3_matches S x1 x2 = some r1) : Met l yX3_matches (Cond.code yX3_matches cX3_matches 3 (some .boolean) :: XALL) ({ frames := 1, cells := 0, slots := 0, locals := 21 } : Room) (va_Pc [.ref (q 0), .int x1, .int x2] (gPre D cI ((xw cI q) S) sz)) (gQi D (xw cI q) S (fun (r : Int32) (u : St) => r = r1 ∧ u = S) sz) 0 0 (va_A ((xw cI q) S) sz) := by
  unfold fX3_matches at hf
  refine Met.ofW (cc := cX3_matches) (maxL := 3) (ret := (some .boolean)) (by decide) rfl ?_
  intro p e s m args below meth c s₁ B hml hv
  obtain ⟨rfl, hg⟩ := hv
  have C : Ctx p s m _ meth c cX3_matches 3 RX3 (some .boolean) := Ctx.of B hml rfl
  obtain ⟨E, hw, hsz⟩ := g_start hg
  subst hsz
  have hl := lv_entry ([.ref (q 0), .int x1, .int x2]) (n := 3) (Nat.le_of_ble_eq_true rfl)
  rw [lg_entry_eq]
  generalize (lg_sl ([.ref (q 0), .int x1, .int x2]) ++ List.replicate (3 - (lg_sl ([.ref (q 0), .int x1, .int x2])).length) Slot.unset).toArray = ls at hl ⊢
  have hl : lv_has ls 3 [(0, .ref (q 0)), (1, .int x1), (2, .int x2)] := hl
  refine lv_aload_n C.1 C.2.1 dX3_matches_0 rfl (lv_at hl 0 rfl) ?_
  refine lv_iload_n C.1 C.2.1 dX3_matches_1 rfl (lv_at hl 1 rfl) ?_
  obtain ⟨z_1, hz_1, hf⟩ := bnd hf
  refine g_cve (wf := (xw cI q)) (S := S) (rest := []) xw_adr hw (g_runV (rm := ({ frames := 0, cells := 0, slots := 0, locals := 0 } : Room)) (As := [.int x1]) (rest := []) C E hw F_X3_requireTerm (ctX3_requireTerm l (cI := cI) (D := D) (q := q) S x1 _ hz_1) km_X3_132 0 rfl rfl rfl hl.1 rfl (Nat.le_of_ble_eq_true rfl) ⟨(Nat.le_of_ble_eq_true rfl), (Nat.le_of_ble_eq_true rfl)⟩ ⟨(Nat.le_of_ble_eq_true rfl), (Nat.le_of_ble_eq_true rfl)⟩ dX3_matches_2) (fun H locs hw => ?_)
  refine lv_aload_n C.1 C.2.1 dX3_matches_5 rfl (lv_at hl 0 rfl) ?_
  refine lv_iload_n C.1 C.2.1 dX3_matches_6 rfl (lv_at hl 2 rfl) ?_
  obtain ⟨z_2, hz_2, hf⟩ := bnd hf
  refine g_cve (wf := (xw cI q)) (S := S) (rest := []) xw_adr hw (g_runV (rm := ({ frames := 0, cells := 0, slots := 0, locals := 0 } : Room)) (As := [.int x2]) (rest := []) C E hw F_X3_requireDream (ctX3_requireDream l (cI := cI) (D := D) (q := q) S x2 _ hz_2) km_X3_95 0 rfl rfl rfl hl.1 rfl (Nat.le_of_ble_eq_true rfl) ⟨(Nat.le_of_ble_eq_true rfl), (Nat.le_of_ble_eq_true rfl)⟩ ⟨(Nat.le_of_ble_eq_true rfl), (Nat.le_of_ble_eq_true rfl)⟩ dX3_matches_7) (fun H locs hw => ?_)
  refine lv_iload_n C.1 C.2.1 dX3_matches_10 rfl (lv_at hl 2 rfl) ?_
  refine lv_aload_n C.1 C.2.1 dX3_matches_11 rfl (lv_at hl 0 rfl) ?_
  refine g_get C E hw inW3 0 rfl rfl 1 (by decide) kf_X3_19 rfl dX3_matches_12 ?_
  refine g_getN C E hw inW2 2 rfl rfl 3 (by decide) kfN_X3_151 rfl dX3_matches_15 ?_
  refine lv_iload_n C.1 C.2.1 dX3_matches_18 rfl (lv_at hl 1 rfl) ?_
  obtain ⟨v_3, hv_3, hf⟩ := bnd hf
  refine g_ald C E hw 13 rfl (ld_some hv_3) dX3_matches_19 ?_
  obtain ⟨v_4, hv_4, hf⟩ := bnd hf
  refine g_ci0e (rest := []) hw (g_run0 (rm := ({ frames := 0, cells := 0, slots := 0, locals := 0 } : Room)) (As := [.int x2, .int v_3]) (rest := []) C F_X3_isIn (ctX3_isIn l x2 v_3 hv_4) km_X3_98 rfl hl.1 rfl (Nat.le_of_ble_eq_true rfl) ⟨(Nat.le_of_ble_eq_true rfl), (Nat.le_of_ble_eq_true rfl)⟩ ⟨(Nat.le_of_ble_eq_true rfl), (Nat.le_of_ble_eq_true rfl)⟩ dX3_matches_20) (fun H locs hw => ?_)
  obtain ⟨v_5, hv_5, hf⟩ := bnd hf
  rw [(zg_some hv_5).1]
  exact g_zret C hw (Nat.le_of_ble_eq_true rfl) (Nat.le_of_ble_eq_true rfl) (zg_some hv_5).2 ⟨Option.some.inj hf, rfl⟩ dX3_matches_23
/-! DreamLedger.matchesOf -/
def fX3_matchesOf (S : St) (x1 : Int32) : Option Int32 :=
  Option.bind (fX3_requireTerm S x1) fun z_1 =>
  Option.bind (ld S 9 20 x1) fun v_2 =>
  Option.bind (fJ6_bitCount_0f7a4 v_2) fun v_3 =>
  some v_3
set_option maxHeartbeats 4000000 in
set_option maxRecDepth 100000 in
theorem ctX3_matchesOf (l : Launch) {D : va_G} {cI : ClassId} {q : Nat → Nat} (S : St) (x1 : Int32) (sz : Nat) {r1 : Int32} (hf : fX3_matchesOf S x1 = some r1) : Met l yX3_matchesOf (Cond.code yX3_matchesOf cX3_matchesOf 2 (some .int) :: XALL) ({ frames := 1, cells := 0, slots := 0, locals := 21 } : Room) (va_Pc [.ref (q 0), .int x1] (gPre D cI ((xw cI q) S) sz)) (gQi D (xw cI q) S (fun (r : Int32) (u : St) => r = r1 ∧ u = S) sz) 0 0 (va_A ((xw cI q) S) sz) := by
  unfold fX3_matchesOf at hf
  refine Met.ofW (cc := cX3_matchesOf) (maxL := 2) (ret := (some .int)) (by decide) rfl ?_
  intro p e s m args below meth c s₁ B hml hv
  obtain ⟨rfl, hg⟩ := hv
  have C : Ctx p s m _ meth c cX3_matchesOf 2 RX3 (some .int) := Ctx.of B hml rfl
  obtain ⟨E, hw, hsz⟩ := g_start hg
  subst hsz
  have hl := lv_entry ([.ref (q 0), .int x1]) (n := 2) (Nat.le_of_ble_eq_true rfl)
  rw [lg_entry_eq]
  generalize (lg_sl ([.ref (q 0), .int x1]) ++ List.replicate (2 - (lg_sl ([.ref (q 0), .int x1])).length) Slot.unset).toArray = ls at hl ⊢
  have hl : lv_has ls 2 [(0, .ref (q 0)), (1, .int x1)] := hl
  refine lv_aload_n C.1 C.2.1 dX3_matchesOf_0 rfl (lv_at hl 0 rfl) ?_
  refine lv_iload_n C.1 C.2.1 dX3_matchesOf_1 rfl (lv_at hl 1 rfl) ?_
  obtain ⟨z_1, hz_1, hf⟩ := bnd hf
  refine g_cve (wf := (xw cI q)) (S := S) (rest := []) xw_adr hw (g_runV (rm := ({ frames := 0, cells := 0, slots := 0, locals := 0 } : Room)) (As := [.int x1]) (rest := []) C E hw F_X3_requireTerm (ctX3_requireTerm l (cI := cI) (D := D) (q := q) S x1 _ hz_1) km_X3_132 0 rfl rfl rfl hl.1 rfl (Nat.le_of_ble_eq_true rfl) ⟨(Nat.le_of_ble_eq_true rfl), (Nat.le_of_ble_eq_true rfl)⟩ ⟨(Nat.le_of_ble_eq_true rfl), (Nat.le_of_ble_eq_true rfl)⟩ dX3_matchesOf_2) (fun H locs hw => ?_)
  refine lv_aload_n C.1 C.2.1 dX3_matchesOf_5 rfl (lv_at hl 0 rfl) ?_
  refine g_get C E hw inW3 0 rfl rfl 1 (by decide) kf_X3_19 rfl dX3_matchesOf_6 ?_
  refine g_getN C E hw inW2 2 rfl rfl 3 (by decide) kfN_X3_151 rfl dX3_matchesOf_9 ?_
  refine lv_iload_n C.1 C.2.1 dX3_matchesOf_12 rfl (lv_at hl 1 rfl) ?_
  obtain ⟨v_2, hv_2, hf⟩ := bnd hf
  refine g_ald C E hw 13 rfl (ld_some hv_2) dX3_matchesOf_13 ?_
  obtain ⟨v_3, hv_3, hf⟩ := bnd hf
  refine g_ci0e (rest := []) hw (g_run0 (rm := ({ frames := 0, cells := 0, slots := 0, locals := 0 } : Room)) (As := [.int v_2]) (rest := []) C F_J6_bitCount_0f7a4 (ctJ6_bitCount_0f7a4 l v_2 hv_3) km_X3_104 rfl hl.1 rfl (Nat.le_of_ble_eq_true rfl) ⟨(Nat.le_of_ble_eq_true rfl), (Nat.le_of_ble_eq_true rfl)⟩ ⟨(Nat.le_of_ble_eq_true rfl), (Nat.le_of_ble_eq_true rfl)⟩ dX3_matchesOf_14) (fun H locs hw => ?_)
  exact g_iret C hw (Nat.le_of_ble_eq_true rfl) (Nat.le_of_ble_eq_true rfl) ⟨Option.some.inj hf, rfl⟩ dX3_matchesOf_17
/-! DreamLedger.tagsSharedBy -/
def fX3_tagsSharedBy_13 (S : St) (x1 : Int32) : Nat → Int32 → Int32 → Option Int32
  | 0, _, _ => none
  | n + 1, x2, x3 =>
    if (S 12 0) ≤ x3 then
      some x2
    else
      Option.bind (fX3_isIn x3 x1) fun v_1 =>
      if v_1 = 0 then
        Option.bind (some (x3 + 1)) fun x3_2 =>
        fX3_tagsSharedBy_13 S x1 n x2 x3_2
      else
        Option.bind (ld S 1 24 x3) fun v_3 =>
        Option.bind (some ((x2 &&& v_3))) fun x2_4 =>
        Option.bind (some (x3 + 1)) fun x3_5 =>
        fX3_tagsSharedBy_13 S x1 n x2_4 x3_5
set_option maxHeartbeats 4000000 in
set_option maxRecDepth 100000 in
theorem wX3_tagsSharedBy_13 {p : Program} {l : Launch} {e : Env} {s : State} {m : MethodId} {args : Array Value} {below : List Frame} {meth : Method} {c : Code} {D : va_G} {cI : ClassId} {q : Nat → Nat} (C : Ctx p s m args meth c cX3_tagsSharedBy 4 RX3 (some .int)) (E : gE D cI s) {r1 : Int32} (S : St) (x1 : Int32) : ∀ (n : Nat) (x2 : Int32) (x3 : Int32), fX3_tagsSharedBy_13 S x1 n x2 x3 = some r1 → ∀ (H : Heap) (locs : List Loc) (ls : Array Slot), gW D ((xw cI q) S) ((xw cI q) S) s H locs → lv_has ls 4 [(0, .ref (q 0)), (1, .int x1), (2, .int x2), (3, .int x3)] → W p l e ({ frames := 1, cells := 0, slots := 0, locals := 21 } : Room) s m args below meth c H locs 0 0 (MQ below (gQi D (xw cI q) S (fun (r : Int32) (u : St) => r = r1 ∧ u = S) s.heap.size) args s 0 0 (va_A ((xw cI q) S) s.heap.size)) (F0 m 13 ls []) := by
  intro n
  induction n with
  | zero => intro x2 x3 hf; rw [fX3_tagsSharedBy_13] at hf; cases hf
  | succ n ih =>
    intro x2 x3 hf H locs ls hw hl
    rw [fX3_tagsSharedBy_13] at hf
    refine lv_iload_n C.1 C.2.1 dX3_tagsSharedBy_13 rfl (lv_at hl 3 rfl) ?_
    refine lv_aload_n C.1 C.2.1 dX3_tagsSharedBy_14 rfl (lv_at hl 0 rfl) ?_
    refine g_get C E hw inW3 0 rfl rfl 7 (by decide) kf_X3_84 rfl dX3_tagsSharedBy_15 ?_
    refine lv_icmp_ge (tgt := 44) C.1 C.2.1 dX3_tagsSharedBy_18 (by decide) (fun hc => ?_) (fun hc => ?_)
    · have hf := ift hc hf
      refine lv_iload_n C.1 C.2.1 dX3_tagsSharedBy_44 rfl (lv_at hl 2 rfl) ?_
      exact g_iret C hw (Nat.le_of_ble_eq_true rfl) (Nat.le_of_ble_eq_true rfl) ⟨Option.some.inj hf, rfl⟩ dX3_tagsSharedBy_45
    · have hf := iff_ hc hf
      refine lv_iload_n C.1 C.2.1 dX3_tagsSharedBy_21 rfl (lv_at hl 3 rfl) ?_
      refine lv_iload_n C.1 C.2.1 dX3_tagsSharedBy_22 rfl (lv_at hl 1 rfl) ?_
      obtain ⟨v_1, hv_1, hf⟩ := bnd hf
      refine g_ci0e (rest := []) hw (g_run0 (rm := ({ frames := 0, cells := 0, slots := 0, locals := 0 } : Room)) (As := [.int x3, .int x1]) (rest := []) C F_X3_isIn (ctX3_isIn l x3 x1 hv_1) km_X3_98 rfl hl.1 rfl (Nat.le_of_ble_eq_true rfl) ⟨(Nat.le_of_ble_eq_true rfl), (Nat.le_of_ble_eq_true rfl)⟩ ⟨(Nat.le_of_ble_eq_true rfl), (Nat.le_of_ble_eq_true rfl)⟩ dX3_tagsSharedBy_23) (fun H locs hw => ?_)
      refine lv_if_eq (tgt := 38) C.1 C.2.1 dX3_tagsSharedBy_26 (by decide) (fun hc => ?_) (fun hc => ?_)
      · have hf := ift hc hf
        obtain ⟨x3_2, hx3_2, hf⟩ := bnd hf
        refine lv_iinc (v := x3_2) (lv' := [(3, .int x3_2), (0, .ref (q 0)), (1, .int x1), (2, .int x2)]) C.1 C.2.1 dX3_tagsSharedBy_38 hl (k := 3) rfl (inc1 hx3_2) (by decide) rfl (fun ls hl => ?_)
        refine lv_goto (tgt := 13) C.1 C.2.1 dX3_tagsSharedBy_41 (by decide) ?_
        exact ih x2 x3_2 hf _ _ _ hw (lv_sub hl [1, 2, 3, 0] rfl)
      · have hf := iff_ hc hf
        refine lv_iload_n C.1 C.2.1 dX3_tagsSharedBy_29 rfl (lv_at hl 2 rfl) ?_
        refine lv_aload_n C.1 C.2.1 dX3_tagsSharedBy_30 rfl (lv_at hl 0 rfl) ?_
        refine g_get C E hw inW3 0 rfl rfl 4 (by decide) kf_X3_34 rfl dX3_tagsSharedBy_31 ?_
        refine lv_iload_n C.1 C.2.1 dX3_tagsSharedBy_34 rfl (lv_at hl 3 rfl) ?_
        obtain ⟨v_3, hv_3, hf⟩ := bnd hf
        refine g_ald C E hw 5 rfl (ld_some hv_3) dX3_tagsSharedBy_35 ?_
        refine lv_iand C.1 C.2.1 dX3_tagsSharedBy_36 ?_
        obtain ⟨x2_4, hx2_4, hf⟩ := bnd hf
        refine topi_b hx2_4 ?_
        refine lv_istore_n (lv' := [(2, .int x2_4), (0, .ref (q 0)), (1, .int x1), (3, .int x3)]) C.1 C.2.1 dX3_tagsSharedBy_37 rfl hl (by decide) rfl (fun ls hl => ?_)
        obtain ⟨x3_5, hx3_5, hf⟩ := bnd hf
        refine lv_iinc (v := x3_5) (lv' := [(3, .int x3_5), (2, .int x2_4), (0, .ref (q 0)), (1, .int x1)]) C.1 C.2.1 dX3_tagsSharedBy_38 hl (k := 3) rfl (inc1 hx3_5) (by decide) rfl (fun ls hl => ?_)
        refine lv_goto (tgt := 13) C.1 C.2.1 dX3_tagsSharedBy_41 (by decide) ?_
        exact ih x2_4 x3_5 hf _ _ _ hw (lv_sub hl [2, 3, 1, 0] rfl)
def fX3_tagsSharedBy (S : St) (x1 : Int32) : Option Int32 :=
  if x1 = 0 then
    fX3_tagsSharedBy_13 S x1 100 0 0
  else
    fX3_tagsSharedBy_13 S x1 100 65535 0
set_option maxHeartbeats 4000000 in
set_option maxRecDepth 100000 in
theorem ctX3_tagsSharedBy (l : Launch) {D : va_G} {cI : ClassId} {q : Nat → Nat} (S : St) (x1 : Int32) (sz : Nat) {r1 : Int32} (hf : fX3_tagsSharedBy S x1 = some r1) : Met l yX3_tagsSharedBy (Cond.code yX3_tagsSharedBy cX3_tagsSharedBy 4 (some .int) :: XALL) ({ frames := 1, cells := 0, slots := 0, locals := 21 } : Room) (va_Pc [.ref (q 0), .int x1] (gPre D cI ((xw cI q) S) sz)) (gQi D (xw cI q) S (fun (r : Int32) (u : St) => r = r1 ∧ u = S) sz) 0 0 (va_A ((xw cI q) S) sz) := by
  unfold fX3_tagsSharedBy at hf
  refine Met.ofW (cc := cX3_tagsSharedBy) (maxL := 4) (ret := (some .int)) (by decide) rfl ?_
  intro p e s m args below meth c s₁ B hml hv
  obtain ⟨rfl, hg⟩ := hv
  have C : Ctx p s m _ meth c cX3_tagsSharedBy 4 RX3 (some .int) := Ctx.of B hml rfl
  obtain ⟨E, hw, hsz⟩ := g_start hg
  subst hsz
  have hl := lv_entry ([.ref (q 0), .int x1]) (n := 4) (Nat.le_of_ble_eq_true rfl)
  rw [lg_entry_eq]
  generalize (lg_sl ([.ref (q 0), .int x1]) ++ List.replicate (4 - (lg_sl ([.ref (q 0), .int x1])).length) Slot.unset).toArray = ls at hl ⊢
  have hl : lv_has ls 4 [(0, .ref (q 0)), (1, .int x1)] := hl
  refine lv_iload_n C.1 C.2.1 dX3_tagsSharedBy_0 rfl (lv_at hl 1 rfl) ?_
  refine lv_if_ne (tgt := 8) C.1 C.2.1 dX3_tagsSharedBy_1 (by decide) (fun hc => ?_) (fun hc => ?_)
  · have hf := iff_ hc hf
    refine lv_ldc C.1 C.2.1 C.2.2.2.1 (C.2.2.2.2.1 _ kk_X3_241) dX3_tagsSharedBy_8 ?_
    refine lv_istore_n (lv' := [(2, .int 65535), (0, .ref (q 0)), (1, .int x1)]) C.1 C.2.1 dX3_tagsSharedBy_10 rfl hl (by decide) rfl (fun ls hl => ?_)
    refine lv_iconst (v := 0) C.1 C.2.1 dX3_tagsSharedBy_11 (by decide) ?_
    refine lv_istore_n (lv' := [(3, .int 0), (2, .int 65535), (0, .ref (q 0)), (1, .int x1)]) C.1 C.2.1 dX3_tagsSharedBy_12 rfl hl (by decide) rfl (fun ls hl => ?_)
    exact wX3_tagsSharedBy_13 C E S x1 100 65535 0 hf _ _ _ hw (lv_sub hl [2, 3, 1, 0] rfl)
  · have hf := ift hc hf
    refine lv_iconst (v := 0) C.1 C.2.1 dX3_tagsSharedBy_4 (by decide) ?_
    refine lv_goto (tgt := 10) C.1 C.2.1 dX3_tagsSharedBy_5 (by decide) ?_
    refine lv_istore_n (lv' := [(2, .int 0), (0, .ref (q 0)), (1, .int x1)]) C.1 C.2.1 dX3_tagsSharedBy_10 rfl hl (by decide) rfl (fun ls hl => ?_)
    refine lv_iconst (v := 0) C.1 C.2.1 dX3_tagsSharedBy_11 (by decide) ?_
    refine lv_istore_n (lv' := [(3, .int 0), (2, .int 0), (0, .ref (q 0)), (1, .int x1)]) C.1 C.2.1 dX3_tagsSharedBy_12 rfl hl (by decide) rfl (fun ls hl => ?_)
    exact wX3_tagsSharedBy_13 C E S x1 100 0 0 hf _ _ _ hw (lv_sub hl [2, 3, 1, 0] rfl)
/-! DreamLedger.commonTags -/
def fX3_commonTags (S : St) (x1 : Int32) : Option Int32 :=
  Option.bind (fX3_requireTerm S x1) fun z_1 =>
  Option.bind (ld S 9 20 x1) fun v_2 =>
  Option.bind (fX3_tagsSharedBy S v_2) fun v_3 =>
  Option.bind (fJ6_bitCount_0f7a4 v_3) fun v_4 =>
  some v_4
set_option maxHeartbeats 4000000 in
set_option maxRecDepth 100000 in
theorem ctX3_commonTags (l : Launch) {D : va_G} {cI : ClassId} {q : Nat → Nat} (S : St) (x1 : Int32) (sz : Nat) {r1 : Int32} (hf : fX3_commonTags S x1 = some r1) : Met l yX3_commonTags (Cond.code yX3_commonTags cX3_commonTags 2 (some .int) :: XALL) ({ frames := 2, cells := 0, slots := 0, locals := 44 } : Room) (va_Pc [.ref (q 0), .int x1] (gPre D cI ((xw cI q) S) sz)) (gQi D (xw cI q) S (fun (r : Int32) (u : St) => r = r1 ∧ u = S) sz) 0 0 (va_A ((xw cI q) S) sz) := by
  unfold fX3_commonTags at hf
  refine Met.ofW (cc := cX3_commonTags) (maxL := 2) (ret := (some .int)) (by decide) rfl ?_
  intro p e s m args below meth c s₁ B hml hv
  obtain ⟨rfl, hg⟩ := hv
  have C : Ctx p s m _ meth c cX3_commonTags 2 RX3 (some .int) := Ctx.of B hml rfl
  obtain ⟨E, hw, hsz⟩ := g_start hg
  subst hsz
  have hl := lv_entry ([.ref (q 0), .int x1]) (n := 2) (Nat.le_of_ble_eq_true rfl)
  rw [lg_entry_eq]
  generalize (lg_sl ([.ref (q 0), .int x1]) ++ List.replicate (2 - (lg_sl ([.ref (q 0), .int x1])).length) Slot.unset).toArray = ls at hl ⊢
  have hl : lv_has ls 2 [(0, .ref (q 0)), (1, .int x1)] := hl
  refine lv_aload_n C.1 C.2.1 dX3_commonTags_0 rfl (lv_at hl 0 rfl) ?_
  refine lv_iload_n C.1 C.2.1 dX3_commonTags_1 rfl (lv_at hl 1 rfl) ?_
  obtain ⟨z_1, hz_1, hf⟩ := bnd hf
  refine g_cve (wf := (xw cI q)) (S := S) (rest := []) xw_adr hw (g_runV (rm := ({ frames := 0, cells := 0, slots := 0, locals := 0 } : Room)) (As := [.int x1]) (rest := []) C E hw F_X3_requireTerm (ctX3_requireTerm l (cI := cI) (D := D) (q := q) S x1 _ hz_1) km_X3_132 0 rfl rfl rfl hl.1 rfl (Nat.le_of_ble_eq_true rfl) ⟨(Nat.le_of_ble_eq_true rfl), (Nat.le_of_ble_eq_true rfl)⟩ ⟨(Nat.le_of_ble_eq_true rfl), (Nat.le_of_ble_eq_true rfl)⟩ dX3_commonTags_2) (fun H locs hw => ?_)
  refine lv_aload_n C.1 C.2.1 dX3_commonTags_5 rfl (lv_at hl 0 rfl) ?_
  refine lv_aload_n C.1 C.2.1 dX3_commonTags_6 rfl (lv_at hl 0 rfl) ?_
  refine g_get C E hw inW3 0 rfl rfl 1 (by decide) kf_X3_19 rfl dX3_commonTags_7 ?_
  refine g_getN C E hw inW2 2 rfl rfl 3 (by decide) kfN_X3_151 rfl dX3_commonTags_10 ?_
  refine lv_iload_n C.1 C.2.1 dX3_commonTags_13 rfl (lv_at hl 1 rfl) ?_
  obtain ⟨v_2, hv_2, hf⟩ := bnd hf
  refine g_ald C E hw 13 rfl (ld_some hv_2) dX3_commonTags_14 ?_
  obtain ⟨v_3, hv_3, hf⟩ := bnd hf
  refine g_cie (wf := (xw cI q)) (S := S) (rest := []) xw_adr hw (g_runV (rm := ({ frames := 1, cells := 0, slots := 0, locals := 21 } : Room)) (As := [.int v_2]) (rest := []) C E hw F_X3_tagsSharedBy (ctX3_tagsSharedBy l (cI := cI) (D := D) (q := q) S v_2 _ hv_3) km_X3_157 0 rfl rfl rfl hl.1 rfl (Nat.le_of_ble_eq_true rfl) ⟨(Nat.le_of_ble_eq_true rfl), (Nat.le_of_ble_eq_true rfl)⟩ ⟨(Nat.le_of_ble_eq_true rfl), (Nat.le_of_ble_eq_true rfl)⟩ dX3_commonTags_15) (fun H locs hw => ?_)
  obtain ⟨v_4, hv_4, hf⟩ := bnd hf
  refine g_ci0e (rest := []) hw (g_run0 (rm := ({ frames := 0, cells := 0, slots := 0, locals := 0 } : Room)) (As := [.int v_3]) (rest := []) C F_J6_bitCount_0f7a4 (ctJ6_bitCount_0f7a4 l v_3 hv_4) km_X3_104 rfl hl.1 rfl (Nat.le_of_ble_eq_true rfl) ⟨(Nat.le_of_ble_eq_true rfl), (Nat.le_of_ble_eq_true rfl)⟩ ⟨(Nat.le_of_ble_eq_true rfl), (Nat.le_of_ble_eq_true rfl)⟩ dX3_commonTags_18) (fun H locs hw => ?_)
  exact g_iret C hw (Nat.le_of_ble_eq_true rfl) (Nat.le_of_ble_eq_true rfl) ⟨Option.some.inj hf, rfl⟩ dX3_commonTags_21
/-! DreamLedger.matchSame -/
def fX3_matchSame (S : St) (x1 : Int32) (x2 : Int32) : Option Int32 :=
  Option.bind (fX3_requireTerm S x1) fun z_1 =>
  Option.bind (fX3_requireTerm S x2) fun z_2 =>
  Option.bind (ld S 9 20 x1) fun v_3 =>
  Option.bind (ld S 9 20 x2) fun v_4 =>
  if v_3 = v_4 then
    some 1
  else
    some 0
set_option maxHeartbeats 4000000 in
set_option maxRecDepth 100000 in
theorem ctX3_matchSame (l : Launch) {D : va_G} {cI : ClassId} {q : Nat → Nat} (S : St) (x1 : Int32) (x2 : Int32) (sz : Nat) {r1 : Int32} (hf : fX3_matchSame S x1 x2 = some r1) : Met l yX3_matchSame (Cond.code yX3_matchSame cX3_matchSame 3 (some .boolean) :: XALL) ({ frames := 1, cells := 0, slots := 0, locals := 21 } : Room) (va_Pc [.ref (q 0), .int x1, .int x2] (gPre D cI ((xw cI q) S) sz)) (gQi D (xw cI q) S (fun (r : Int32) (u : St) => r = r1 ∧ u = S) sz) 0 0 (va_A ((xw cI q) S) sz) := by
  unfold fX3_matchSame at hf
  refine Met.ofW (cc := cX3_matchSame) (maxL := 3) (ret := (some .boolean)) (by decide) rfl ?_
  intro p e s m args below meth c s₁ B hml hv
  obtain ⟨rfl, hg⟩ := hv
  have C : Ctx p s m _ meth c cX3_matchSame 3 RX3 (some .boolean) := Ctx.of B hml rfl
  obtain ⟨E, hw, hsz⟩ := g_start hg
  subst hsz
  have hl := lv_entry ([.ref (q 0), .int x1, .int x2]) (n := 3) (Nat.le_of_ble_eq_true rfl)
  rw [lg_entry_eq]
  generalize (lg_sl ([.ref (q 0), .int x1, .int x2]) ++ List.replicate (3 - (lg_sl ([.ref (q 0), .int x1, .int x2])).length) Slot.unset).toArray = ls at hl ⊢
  have hl : lv_has ls 3 [(0, .ref (q 0)), (1, .int x1), (2, .int x2)] := hl
  refine lv_aload_n C.1 C.2.1 dX3_matchSame_0 rfl (lv_at hl 0 rfl) ?_
  refine lv_iload_n C.1 C.2.1 dX3_matchSame_1 rfl (lv_at hl 1 rfl) ?_
  obtain ⟨z_1, hz_1, hf⟩ := bnd hf
  refine g_cve (wf := (xw cI q)) (S := S) (rest := []) xw_adr hw (g_runV (rm := ({ frames := 0, cells := 0, slots := 0, locals := 0 } : Room)) (As := [.int x1]) (rest := []) C E hw F_X3_requireTerm (ctX3_requireTerm l (cI := cI) (D := D) (q := q) S x1 _ hz_1) km_X3_132 0 rfl rfl rfl hl.1 rfl (Nat.le_of_ble_eq_true rfl) ⟨(Nat.le_of_ble_eq_true rfl), (Nat.le_of_ble_eq_true rfl)⟩ ⟨(Nat.le_of_ble_eq_true rfl), (Nat.le_of_ble_eq_true rfl)⟩ dX3_matchSame_2) (fun H locs hw => ?_)
  refine lv_aload_n C.1 C.2.1 dX3_matchSame_5 rfl (lv_at hl 0 rfl) ?_
  refine lv_iload_n C.1 C.2.1 dX3_matchSame_6 rfl (lv_at hl 2 rfl) ?_
  obtain ⟨z_2, hz_2, hf⟩ := bnd hf
  refine g_cve (wf := (xw cI q)) (S := S) (rest := []) xw_adr hw (g_runV (rm := ({ frames := 0, cells := 0, slots := 0, locals := 0 } : Room)) (As := [.int x2]) (rest := []) C E hw F_X3_requireTerm (ctX3_requireTerm l (cI := cI) (D := D) (q := q) S x2 _ hz_2) km_X3_132 0 rfl rfl rfl hl.1 rfl (Nat.le_of_ble_eq_true rfl) ⟨(Nat.le_of_ble_eq_true rfl), (Nat.le_of_ble_eq_true rfl)⟩ ⟨(Nat.le_of_ble_eq_true rfl), (Nat.le_of_ble_eq_true rfl)⟩ dX3_matchSame_7) (fun H locs hw => ?_)
  refine lv_aload_n C.1 C.2.1 dX3_matchSame_10 rfl (lv_at hl 0 rfl) ?_
  refine g_get C E hw inW3 0 rfl rfl 1 (by decide) kf_X3_19 rfl dX3_matchSame_11 ?_
  refine g_getN C E hw inW2 2 rfl rfl 3 (by decide) kfN_X3_151 rfl dX3_matchSame_14 ?_
  refine lv_iload_n C.1 C.2.1 dX3_matchSame_17 rfl (lv_at hl 1 rfl) ?_
  obtain ⟨v_3, hv_3, hf⟩ := bnd hf
  refine g_ald C E hw 13 rfl (ld_some hv_3) dX3_matchSame_18 ?_
  refine lv_aload_n C.1 C.2.1 dX3_matchSame_19 rfl (lv_at hl 0 rfl) ?_
  refine g_get C E hw inW3 0 rfl rfl 1 (by decide) kf_X3_19 rfl dX3_matchSame_20 ?_
  refine g_getN C E hw inW2 2 rfl rfl 3 (by decide) kfN_X3_151 rfl dX3_matchSame_23 ?_
  refine lv_iload_n C.1 C.2.1 dX3_matchSame_26 rfl (lv_at hl 2 rfl) ?_
  obtain ⟨v_4, hv_4, hf⟩ := bnd hf
  refine g_ald C E hw 13 rfl (ld_some hv_4) dX3_matchSame_27 ?_
  refine lv_icmp_ne (tgt := 35) C.1 C.2.1 dX3_matchSame_28 (by decide) (fun hc => ?_) (fun hc => ?_)
  · have hf := iff_ hc hf
    refine lv_iconst (v := 0) C.1 C.2.1 dX3_matchSame_35 (by decide) ?_
    exact g_zret C hw (Nat.le_of_ble_eq_true rfl) (Nat.le_of_ble_eq_true rfl) (Or.inl rfl) ⟨Option.some.inj hf, rfl⟩ dX3_matchSame_36
  · have hf := ift hc hf
    refine lv_iconst (v := 1) C.1 C.2.1 dX3_matchSame_31 (by decide) ?_
    refine lv_goto (tgt := 36) C.1 C.2.1 dX3_matchSame_32 (by decide) ?_
    exact g_zret C hw (Nat.le_of_ble_eq_true rfl) (Nat.le_of_ble_eq_true rfl) (Or.inr rfl) ⟨Option.some.inj hf, rfl⟩ dX3_matchSame_36
/-! DreamLedger.smallestCover -/
def fX3_smallestCover_12 (x2 : Int32) : Nat → St → Int32 → Option (Int32 × St)
  | 0, _, _ => none
  | n + 1, S, x3 =>
    if 16 ≤ x3 then
      Option.bind (fX0_smallestOf S x2) fun u_4 => pr u_4 fun v_2 S_3 =>
      some (v_2, S_3)
    else
      Option.bind (fX3_dreamsHaving S x3) fun v_5 =>
      Option.bind (sto S 10 16 x3 (v_5 &&& x2)) fun S_6 =>
      Option.bind (some (x3 + 1)) fun x3_7 =>
      fX3_smallestCover_12 x2 n S_6 x3_7
set_option maxHeartbeats 4000000 in
set_option maxRecDepth 100000 in
theorem wX3_smallestCover_12 {p : Program} {l : Launch} {e : Env} {s : State} {m : MethodId} {args : Array Value} {below : List Frame} {meth : Method} {c : Code} {D : va_G} {cI : ClassId} {q : Nat → Nat} (C : Ctx p s m args meth c cX3_smallestCover 4 RX3 (some .int)) (E : gE D cI s) {S0 : St} {r1 : Int32} {S1 : St} (x2 : Int32) : ∀ (n : Nat) (S : St) (x3 : Int32), fX3_smallestCover_12 x2 n S x3 = some (r1, S1) → ∀ (H : Heap) (locs : List Loc) (ls : Array Slot), gW D ((xw cI q) S0) ((xw cI q) S) s H locs → lv_has ls 4 [(0, .ref (q 0)), (2, .int x2), (3, .int x3)] → W p l e ({ frames := 22, cells := 0, slots := 0, locals := 849 } : Room) s m args below meth c H locs 0 0 (MQ below (gQi D (xw cI q) S0 (fun (r : Int32) (u : St) => r = r1 ∧ u = S1) s.heap.size) args s 0 0 (va_A ((xw cI q) S0) s.heap.size)) (F0 m 12 ls []) := by
  intro n
  induction n with
  | zero => intro S x3 hf; rw [fX3_smallestCover_12] at hf; cases hf
  | succ n ih =>
    intro S x3 hf H locs ls hw hl
    rw [fX3_smallestCover_12] at hf
    refine lv_iload_n C.1 C.2.1 dX3_smallestCover_12 rfl (lv_at hl 2 rfl) ?_
    refine lv_bipush (v := 16) C.1 C.2.1 dX3_smallestCover_13 (by decide) ?_
    refine lv_icmp_ge (tgt := 40) C.1 C.2.1 dX3_smallestCover_15 (by decide) (fun hc => ?_) (fun hc => ?_)
    · have hf := ift hc hf
      refine lv_aload_n C.1 C.2.1 dX3_smallestCover_40 rfl (lv_at hl 0 rfl) ?_
      refine g_get C E hw inW3 0 rfl rfl 2 (by decide) kf_X3_26 rfl dX3_smallestCover_41 ?_
      refine lv_iload_n C.1 C.2.1 dX3_smallestCover_44 rfl (lv_at hl 1 rfl) ?_
      obtain ⟨⟨v_2, S_3⟩, hu_4, hf⟩ := bnd hf
      have hf := pr_r hf
      refine g_cie (wf := (xw cI q)) (S := S) (rest := []) xw_adr hw (g_runVN (rm := ({ frames := 21, cells := 0, slots := 0, locals := 826 } : Room)) (As := [.int x2]) (rest := []) C E hw F_X0_smallestOf (ctX0_smallestOf l (cI := cI) (D := D) (q := q) S x2 _ hu_4) kmN_X3_245 3 rfl rfl rfl hl.1 rfl (Nat.le_of_ble_eq_true rfl) ⟨(Nat.le_of_ble_eq_true rfl), (Nat.le_of_ble_eq_true rfl)⟩ ⟨(Nat.le_of_ble_eq_true rfl), (Nat.le_of_ble_eq_true rfl)⟩ dX3_smallestCover_45) (fun H locs hw => ?_)
      exact g_iret C hw (Nat.le_of_ble_eq_true rfl) (Nat.le_of_ble_eq_true rfl) ⟨congrArg Prod.fst (Option.some.inj hf), congrArg Prod.snd (Option.some.inj hf)⟩ dX3_smallestCover_48
    · have hf := iff_ hc hf
      refine lv_aload_n C.1 C.2.1 dX3_smallestCover_18 rfl (lv_at hl 0 rfl) ?_
      refine g_get C E hw inW3 0 rfl rfl 2 (by decide) kf_X3_26 rfl dX3_smallestCover_19 ?_
      refine g_getN C E hw inW0 3 rfl rfl 0 (by decide) kfN_X3_242 rfl dX3_smallestCover_22 ?_
      refine lv_iload_n C.1 C.2.1 dX3_smallestCover_25 rfl (lv_at hl 2 rfl) ?_
      refine lv_aload_n C.1 C.2.1 dX3_smallestCover_26 rfl (lv_at hl 0 rfl) ?_
      refine lv_iload_n C.1 C.2.1 dX3_smallestCover_27 rfl (lv_at hl 2 rfl) ?_
      obtain ⟨v_5, hv_5, hf⟩ := bnd hf
      refine g_cie (wf := (xw cI q)) (S := S) (rest := [.int x3, .ref (q 14)]) xw_adr hw (g_runV (rm := ({ frames := 1, cells := 0, slots := 0, locals := 21 } : Room)) (As := [.int x3]) (rest := [.int x3, .ref (q 14)]) C E hw F_X3_dreamsHaving (ctX3_dreamsHaving l (cI := cI) (D := D) (q := q) S x3 _ hv_5) km_X3_148 0 rfl rfl rfl hl.1 rfl (Nat.le_of_ble_eq_true rfl) ⟨(Nat.le_of_ble_eq_true rfl), (Nat.le_of_ble_eq_true rfl)⟩ ⟨(Nat.le_of_ble_eq_true rfl), (Nat.le_of_ble_eq_true rfl)⟩ dX3_smallestCover_28) (fun H locs hw => ?_)
      refine lv_iload_n C.1 C.2.1 dX3_smallestCover_31 rfl (lv_at hl 1 rfl) ?_
      refine lv_iand C.1 C.2.1 dX3_smallestCover_32 ?_
      obtain ⟨S_6, hS_6, hf⟩ := bnd hf
      refine g_ast C E hw 14 rfl (sto_some hS_6).1 (ws' := (xw cI q) S_6) (by rw [← (sto_some hS_6).2]; rfl) dX3_smallestCover_33 (fun H locs hw => ?_)
      obtain ⟨x3_7, hx3_7, hf⟩ := bnd hf
      refine lv_iinc (v := x3_7) (lv' := [(3, .int x3_7), (0, .ref (q 0)), (2, .int x2)]) C.1 C.2.1 dX3_smallestCover_34 hl (k := 2) rfl (inc1 hx3_7) (by decide) rfl (fun ls hl => ?_)
      refine lv_goto (tgt := 12) C.1 C.2.1 dX3_smallestCover_37 (by decide) ?_
      exact ih S_6 x3_7 hf _ _ _ hw (lv_sub hl [1, 2, 0] rfl)
def fX3_smallestCover (S : St) (x1 : Int32) : Option (Int32 × St) :=
  Option.bind (ld S 9 20 x1) fun v_1 =>
  fX3_smallestCover_12 v_1 100 S 0
set_option maxHeartbeats 4000000 in
set_option maxRecDepth 100000 in
theorem ctX3_smallestCover (l : Launch) {D : va_G} {cI : ClassId} {q : Nat → Nat} (S : St) (x1 : Int32) (sz : Nat) {r1 : Int32} {S1 : St} (hf : fX3_smallestCover S x1 = some (r1, S1)) : Met l yX3_smallestCover (Cond.code yX3_smallestCover cX3_smallestCover 4 (some .int) :: XALL) ({ frames := 22, cells := 0, slots := 0, locals := 849 } : Room) (va_Pc [.ref (q 0), .int x1] (gPre D cI ((xw cI q) S) sz)) (gQi D (xw cI q) S (fun (r : Int32) (u : St) => r = r1 ∧ u = S1) sz) 0 0 (va_A ((xw cI q) S) sz) := by
  unfold fX3_smallestCover at hf
  refine Met.ofW (cc := cX3_smallestCover) (maxL := 4) (ret := (some .int)) (by decide) rfl ?_
  intro p e s m args below meth c s₁ B hml hv
  obtain ⟨rfl, hg⟩ := hv
  have C : Ctx p s m _ meth c cX3_smallestCover 4 RX3 (some .int) := Ctx.of B hml rfl
  obtain ⟨E, hw, hsz⟩ := g_start hg
  subst hsz
  have hl := lv_entry ([.ref (q 0), .int x1]) (n := 4) (Nat.le_of_ble_eq_true rfl)
  rw [lg_entry_eq]
  generalize (lg_sl ([.ref (q 0), .int x1]) ++ List.replicate (4 - (lg_sl ([.ref (q 0), .int x1])).length) Slot.unset).toArray = ls at hl ⊢
  have hl : lv_has ls 4 [(0, .ref (q 0)), (1, .int x1)] := hl
  refine lv_aload_n C.1 C.2.1 dX3_smallestCover_0 rfl (lv_at hl 0 rfl) ?_
  refine g_get C E hw inW3 0 rfl rfl 1 (by decide) kf_X3_19 rfl dX3_smallestCover_1 ?_
  refine g_getN C E hw inW2 2 rfl rfl 3 (by decide) kfN_X3_151 rfl dX3_smallestCover_4 ?_
  refine lv_iload_n C.1 C.2.1 dX3_smallestCover_7 rfl (lv_at hl 1 rfl) ?_
  obtain ⟨v_1, hv_1, hf⟩ := bnd hf
  refine g_ald C E hw 13 rfl (ld_some hv_1) dX3_smallestCover_8 ?_
  refine lv_istore_n (lv' := [(2, .int v_1), (0, .ref (q 0)), (1, .int x1)]) C.1 C.2.1 dX3_smallestCover_9 rfl hl (by decide) rfl (fun ls hl => ?_)
  refine lv_iconst (v := 0) C.1 C.2.1 dX3_smallestCover_10 (by decide) ?_
  refine lv_istore_n (lv' := [(3, .int 0), (2, .int v_1), (0, .ref (q 0)), (1, .int x1)]) C.1 C.2.1 dX3_smallestCover_11 rfl hl (by decide) rfl (fun ls hl => ?_)
  exact wX3_smallestCover_12 C E v_1 100 S 0 hf _ _ _ hw (lv_sub hl [2, 1, 0] rfl)
/-! DreamLedger.coverSize -/
def fX3_coverSize (S : St) (x1 : Int32) : Option (Int32 × St) :=
  Option.bind (fX3_requireTerm S x1) fun z_1 =>
  Option.bind (fX3_smallestCover S x1) fun u_4 => pr u_4 fun v_2 S_3 =>
  Option.bind (fJ6_bitCount_0f7a4 v_2) fun v_5 =>
  some (v_5, S_3)
set_option maxHeartbeats 4000000 in
set_option maxRecDepth 100000 in
theorem ctX3_coverSize (l : Launch) {D : va_G} {cI : ClassId} {q : Nat → Nat} (S : St) (x1 : Int32) (sz : Nat) {r1 : Int32} {S1 : St} (hf : fX3_coverSize S x1 = some (r1, S1)) : Met l yX3_coverSize (Cond.code yX3_coverSize cX3_coverSize 2 (some .int) :: XALL) ({ frames := 23, cells := 0, slots := 0, locals := 872 } : Room) (va_Pc [.ref (q 0), .int x1] (gPre D cI ((xw cI q) S) sz)) (gQi D (xw cI q) S (fun (r : Int32) (u : St) => r = r1 ∧ u = S1) sz) 0 0 (va_A ((xw cI q) S) sz) := by
  unfold fX3_coverSize at hf
  refine Met.ofW (cc := cX3_coverSize) (maxL := 2) (ret := (some .int)) (by decide) rfl ?_
  intro p e s m args below meth c s₁ B hml hv
  obtain ⟨rfl, hg⟩ := hv
  have C : Ctx p s m _ meth c cX3_coverSize 2 RX3 (some .int) := Ctx.of B hml rfl
  obtain ⟨E, hw, hsz⟩ := g_start hg
  subst hsz
  have hl := lv_entry ([.ref (q 0), .int x1]) (n := 2) (Nat.le_of_ble_eq_true rfl)
  rw [lg_entry_eq]
  generalize (lg_sl ([.ref (q 0), .int x1]) ++ List.replicate (2 - (lg_sl ([.ref (q 0), .int x1])).length) Slot.unset).toArray = ls at hl ⊢
  have hl : lv_has ls 2 [(0, .ref (q 0)), (1, .int x1)] := hl
  refine lv_aload_n C.1 C.2.1 dX3_coverSize_0 rfl (lv_at hl 0 rfl) ?_
  refine lv_iload_n C.1 C.2.1 dX3_coverSize_1 rfl (lv_at hl 1 rfl) ?_
  obtain ⟨z_1, hz_1, hf⟩ := bnd hf
  refine g_cve (wf := (xw cI q)) (S := S) (rest := []) xw_adr hw (g_runV (rm := ({ frames := 0, cells := 0, slots := 0, locals := 0 } : Room)) (As := [.int x1]) (rest := []) C E hw F_X3_requireTerm (ctX3_requireTerm l (cI := cI) (D := D) (q := q) S x1 _ hz_1) km_X3_132 0 rfl rfl rfl hl.1 rfl (Nat.le_of_ble_eq_true rfl) ⟨(Nat.le_of_ble_eq_true rfl), (Nat.le_of_ble_eq_true rfl)⟩ ⟨(Nat.le_of_ble_eq_true rfl), (Nat.le_of_ble_eq_true rfl)⟩ dX3_coverSize_2) (fun H locs hw => ?_)
  refine lv_aload_n C.1 C.2.1 dX3_coverSize_5 rfl (lv_at hl 0 rfl) ?_
  refine lv_iload_n C.1 C.2.1 dX3_coverSize_6 rfl (lv_at hl 1 rfl) ?_
  obtain ⟨⟨v_2, S_3⟩, hu_4, hf⟩ := bnd hf
  have hf := pr_r hf
  refine g_cie (wf := (xw cI q)) (S := S) (rest := []) xw_adr hw (g_runV (rm := ({ frames := 22, cells := 0, slots := 0, locals := 849 } : Room)) (As := [.int x1]) (rest := []) C E hw F_X3_smallestCover (ctX3_smallestCover l (cI := cI) (D := D) (q := q) S x1 _ hu_4) km_X3_160 0 rfl rfl rfl hl.1 rfl (Nat.le_of_ble_eq_true rfl) ⟨(Nat.le_of_ble_eq_true rfl), (Nat.le_of_ble_eq_true rfl)⟩ ⟨(Nat.le_of_ble_eq_true rfl), (Nat.le_of_ble_eq_true rfl)⟩ dX3_coverSize_7) (fun H locs hw => ?_)
  obtain ⟨v_5, hv_5, hf⟩ := bnd hf
  refine g_ci0e (rest := []) hw (g_run0 (rm := ({ frames := 0, cells := 0, slots := 0, locals := 0 } : Room)) (As := [.int v_2]) (rest := []) C F_J6_bitCount_0f7a4 (ctJ6_bitCount_0f7a4 l v_2 hv_5) km_X3_104 rfl hl.1 rfl (Nat.le_of_ble_eq_true rfl) ⟨(Nat.le_of_ble_eq_true rfl), (Nat.le_of_ble_eq_true rfl)⟩ ⟨(Nat.le_of_ble_eq_true rfl), (Nat.le_of_ble_eq_true rfl)⟩ dX3_coverSize_10) (fun H locs hw => ?_)
  exact g_iret C hw (Nat.le_of_ble_eq_true rfl) (Nat.le_of_ble_eq_true rfl) ⟨congrArg Prod.fst (Option.some.inj hf), congrArg Prod.snd (Option.some.inj hf)⟩ dX3_coverSize_13
/-! DreamLedger.tags -/
def fX3_tags (S : St) : Option Int32 :=
  some (S 14 0)
set_option maxHeartbeats 4000000 in
set_option maxRecDepth 100000 in
theorem ctX3_tags (l : Launch) {D : va_G} {cI : ClassId} {q : Nat → Nat} (S : St) (sz : Nat) {r1 : Int32} (hf : fX3_tags S = some r1) : Met l yX3_tags (Cond.code yX3_tags cX3_tags 1 (some .int) :: XALL) ({ frames := 0, cells := 0, slots := 0, locals := 0 } : Room) (va_Pc [.ref (q 0)] (gPre D cI ((xw cI q) S) sz)) (gQi D (xw cI q) S (fun (r : Int32) (u : St) => r = r1 ∧ u = S) sz) 0 0 (va_A ((xw cI q) S) sz) := by
  unfold fX3_tags at hf
  refine Met.ofW (cc := cX3_tags) (maxL := 1) (ret := (some .int)) (by decide) rfl ?_
  intro p e s m args below meth c s₁ B hml hv
  obtain ⟨rfl, hg⟩ := hv
  have C : Ctx p s m _ meth c cX3_tags 1 RX3 (some .int) := Ctx.of B hml rfl
  obtain ⟨E, hw, hsz⟩ := g_start hg
  subst hsz
  have hl := lv_entry ([.ref (q 0)]) (n := 1) (Nat.le_of_ble_eq_true rfl)
  rw [lg_entry_eq]
  generalize (lg_sl ([.ref (q 0)]) ++ List.replicate (1 - (lg_sl ([.ref (q 0)])).length) Slot.unset).toArray = ls at hl ⊢
  have hl : lv_has ls 1 [(0, .ref (q 0))] := hl
  refine lv_aload_n C.1 C.2.1 dX3_tags_0 rfl (lv_at hl 0 rfl) ?_
  refine g_get C E hw inW3 0 rfl rfl 0 (by decide) kf_X3_10 rfl dX3_tags_1 ?_
  refine g_getN C E hw inW1 1 rfl rfl 2 (by decide) kfN_X3_43 rfl dX3_tags_4 ?_
  exact g_iret C hw (Nat.le_of_ble_eq_true rfl) (Nat.le_of_ble_eq_true rfl) ⟨Option.some.inj hf, rfl⟩ dX3_tags_7
/-! DreamLedger.dreams -/
def fX3_dreams (S : St) : Option Int32 :=
  some (S 12 0)
set_option maxHeartbeats 4000000 in
set_option maxRecDepth 100000 in
theorem ctX3_dreams (l : Launch) {D : va_G} {cI : ClassId} {q : Nat → Nat} (S : St) (sz : Nat) {r1 : Int32} (hf : fX3_dreams S = some r1) : Met l yX3_dreams (Cond.code yX3_dreams cX3_dreams 1 (some .int) :: XALL) ({ frames := 0, cells := 0, slots := 0, locals := 0 } : Room) (va_Pc [.ref (q 0)] (gPre D cI ((xw cI q) S) sz)) (gQi D (xw cI q) S (fun (r : Int32) (u : St) => r = r1 ∧ u = S) sz) 0 0 (va_A ((xw cI q) S) sz) := by
  unfold fX3_dreams at hf
  refine Met.ofW (cc := cX3_dreams) (maxL := 1) (ret := (some .int)) (by decide) rfl ?_
  intro p e s m args below meth c s₁ B hml hv
  obtain ⟨rfl, hg⟩ := hv
  have C : Ctx p s m _ meth c cX3_dreams 1 RX3 (some .int) := Ctx.of B hml rfl
  obtain ⟨E, hw, hsz⟩ := g_start hg
  subst hsz
  have hl := lv_entry ([.ref (q 0)]) (n := 1) (Nat.le_of_ble_eq_true rfl)
  rw [lg_entry_eq]
  generalize (lg_sl ([.ref (q 0)]) ++ List.replicate (1 - (lg_sl ([.ref (q 0)])).length) Slot.unset).toArray = ls at hl ⊢
  have hl : lv_has ls 1 [(0, .ref (q 0))] := hl
  refine lv_aload_n C.1 C.2.1 dX3_dreams_0 rfl (lv_at hl 0 rfl) ?_
  refine g_get C E hw inW3 0 rfl rfl 7 (by decide) kf_X3_84 rfl dX3_dreams_1 ?_
  exact g_iret C hw (Nat.le_of_ble_eq_true rfl) (Nat.le_of_ble_eq_true rfl) ⟨Option.some.inj hf, rfl⟩ dX3_dreams_4
/-! DreamLedger.terms -/
def fX3_terms (S : St) : Option Int32 :=
  some (S 15 0)
set_option maxHeartbeats 4000000 in
set_option maxRecDepth 100000 in
theorem ctX3_terms (l : Launch) {D : va_G} {cI : ClassId} {q : Nat → Nat} (S : St) (sz : Nat) {r1 : Int32} (hf : fX3_terms S = some r1) : Met l yX3_terms (Cond.code yX3_terms cX3_terms 1 (some .int) :: XALL) ({ frames := 0, cells := 0, slots := 0, locals := 0 } : Room) (va_Pc [.ref (q 0)] (gPre D cI ((xw cI q) S) sz)) (gQi D (xw cI q) S (fun (r : Int32) (u : St) => r = r1 ∧ u = S) sz) 0 0 (va_A ((xw cI q) S) sz) := by
  unfold fX3_terms at hf
  refine Met.ofW (cc := cX3_terms) (maxL := 1) (ret := (some .int)) (by decide) rfl ?_
  intro p e s m args below meth c s₁ B hml hv
  obtain ⟨rfl, hg⟩ := hv
  have C : Ctx p s m _ meth c cX3_terms 1 RX3 (some .int) := Ctx.of B hml rfl
  obtain ⟨E, hw, hsz⟩ := g_start hg
  subst hsz
  have hl := lv_entry ([.ref (q 0)]) (n := 1) (Nat.le_of_ble_eq_true rfl)
  rw [lg_entry_eq]
  generalize (lg_sl ([.ref (q 0)]) ++ List.replicate (1 - (lg_sl ([.ref (q 0)])).length) Slot.unset).toArray = ls at hl ⊢
  have hl : lv_has ls 1 [(0, .ref (q 0))] := hl
  refine lv_aload_n C.1 C.2.1 dX3_terms_0 rfl (lv_at hl 0 rfl) ?_
  refine g_get C E hw inW3 0 rfl rfl 1 (by decide) kf_X3_19 rfl dX3_terms_1 ?_
  refine g_getN C E hw inW2 2 rfl rfl 4 (by decide) kfN_X3_135 rfl dX3_terms_4 ?_
  exact g_iret C hw (Nat.le_of_ble_eq_true rfl) (Nat.le_of_ble_eq_true rfl) ⟨Option.some.inj hf, rfl⟩ dX3_terms_7
/-! DreamLedger.nights -/
def fX3_nights (S : St) : Option Int32 :=
  some (S 13 0)
set_option maxHeartbeats 4000000 in
set_option maxRecDepth 100000 in
theorem ctX3_nights (l : Launch) {D : va_G} {cI : ClassId} {q : Nat → Nat} (S : St) (sz : Nat) {r1 : Int32} (hf : fX3_nights S = some r1) : Met l yX3_nights (Cond.code yX3_nights cX3_nights 1 (some .int) :: XALL) ({ frames := 0, cells := 0, slots := 0, locals := 0 } : Room) (va_Pc [.ref (q 0)] (gPre D cI ((xw cI q) S) sz)) (gQi D (xw cI q) S (fun (r : Int32) (u : St) => r = r1 ∧ u = S) sz) 0 0 (va_A ((xw cI q) S) sz) := by
  unfold fX3_nights at hf
  refine Met.ofW (cc := cX3_nights) (maxL := 1) (ret := (some .int)) (by decide) rfl ?_
  intro p e s m args below meth c s₁ B hml hv
  obtain ⟨rfl, hg⟩ := hv
  have C : Ctx p s m _ meth c cX3_nights 1 RX3 (some .int) := Ctx.of B hml rfl
  obtain ⟨E, hw, hsz⟩ := g_start hg
  subst hsz
  have hl := lv_entry ([.ref (q 0)]) (n := 1) (Nat.le_of_ble_eq_true rfl)
  rw [lg_entry_eq]
  generalize (lg_sl ([.ref (q 0)]) ++ List.replicate (1 - (lg_sl ([.ref (q 0)])).length) Slot.unset).toArray = ls at hl ⊢
  have hl : lv_has ls 1 [(0, .ref (q 0))] := hl
  refine lv_aload_n C.1 C.2.1 dX3_nights_0 rfl (lv_at hl 0 rfl) ?_
  refine g_get C E hw inW3 0 rfl rfl 8 (by decide) kf_X3_89 rfl dX3_nights_1 ?_
  exact g_iret C hw (Nat.le_of_ble_eq_true rfl) (Nat.le_of_ble_eq_true rfl) ⟨Option.some.inj hf, rfl⟩ dX3_nights_4
/-! DreamLedger.fadedDreams -/
def fX3_fadedDreams (S : St) : Option Int32 :=
  Option.bind (fX3_countFadedAfter S 0) fun v_1 =>
  some v_1
set_option maxHeartbeats 4000000 in
set_option maxRecDepth 100000 in
theorem ctX3_fadedDreams (l : Launch) {D : va_G} {cI : ClassId} {q : Nat → Nat} (S : St) (sz : Nat) {r1 : Int32} (hf : fX3_fadedDreams S = some r1) : Met l yX3_fadedDreams (Cond.code yX3_fadedDreams cX3_fadedDreams 1 (some .int) :: XALL) ({ frames := 3, cells := 0, slots := 0, locals := 67 } : Room) (va_Pc [.ref (q 0)] (gPre D cI ((xw cI q) S) sz)) (gQi D (xw cI q) S (fun (r : Int32) (u : St) => r = r1 ∧ u = S) sz) 0 0 (va_A ((xw cI q) S) sz) := by
  unfold fX3_fadedDreams at hf
  refine Met.ofW (cc := cX3_fadedDreams) (maxL := 1) (ret := (some .int)) (by decide) rfl ?_
  intro p e s m args below meth c s₁ B hml hv
  obtain ⟨rfl, hg⟩ := hv
  have C : Ctx p s m _ meth c cX3_fadedDreams 1 RX3 (some .int) := Ctx.of B hml rfl
  obtain ⟨E, hw, hsz⟩ := g_start hg
  subst hsz
  have hl := lv_entry ([.ref (q 0)]) (n := 1) (Nat.le_of_ble_eq_true rfl)
  rw [lg_entry_eq]
  generalize (lg_sl ([.ref (q 0)]) ++ List.replicate (1 - (lg_sl ([.ref (q 0)])).length) Slot.unset).toArray = ls at hl ⊢
  have hl : lv_has ls 1 [(0, .ref (q 0))] := hl
  refine lv_aload_n C.1 C.2.1 dX3_fadedDreams_0 rfl (lv_at hl 0 rfl) ?_
  refine lv_iconst (v := 0) C.1 C.2.1 dX3_fadedDreams_1 (by decide) ?_
  obtain ⟨v_1, hv_1, hf⟩ := bnd hf
  refine g_cie (wf := (xw cI q)) (S := S) (rest := []) xw_adr hw (g_runV (rm := ({ frames := 2, cells := 0, slots := 0, locals := 44 } : Room)) (As := [.int 0]) (rest := []) C E hw F_X3_countFadedAfter (ctX3_countFadedAfter l (cI := cI) (D := D) (q := q) S 0 _ hv_1) km_X3_122 0 rfl rfl rfl hl.1 rfl (Nat.le_of_ble_eq_true rfl) ⟨(Nat.le_of_ble_eq_true rfl), (Nat.le_of_ble_eq_true rfl)⟩ ⟨(Nat.le_of_ble_eq_true rfl), (Nat.le_of_ble_eq_true rfl)⟩ dX3_fadedDreams_2) (fun H locs hw => ?_)
  exact g_iret C hw (Nat.le_of_ble_eq_true rfl) (Nat.le_of_ble_eq_true rfl) ⟨Option.some.inj hf, rfl⟩ dX3_fadedDreams_5
/-! DreamLedger.meanVividness -/
def fX3_meanVividness_13 (S : St) : Nat → Int32 → Int32 → Option UInt64
  | 0, _, _ => none
  | n + 1, x1, x2 =>
    if (S 12 0) ≤ x2 then
      Option.bind (dv (FP.i2d x1) (FP.i2d (S 12 0))) fun v_1 =>
      some v_1
    else
      Option.bind (ld S 2 24 x2) fun v_2 =>
      Option.bind (some ((x1 + v_2))) fun x1_3 =>
      Option.bind (some (x2 + 1)) fun x2_4 =>
      fX3_meanVividness_13 S n x1_3 x2_4
set_option maxHeartbeats 4000000 in
set_option maxRecDepth 100000 in
theorem wX3_meanVividness_13 {p : Program} {l : Launch} {e : Env} {s : State} {m : MethodId} {args : Array Value} {below : List Frame} {meth : Method} {c : Code} {D : va_G} {cI : ClassId} {q : Nat → Nat} (C : Ctx p s m args meth c cX3_meanVividness 3 RX3 (some .double)) (E : gE D cI s) {r1 : UInt64} (S : St) : ∀ (n : Nat) (x1 : Int32) (x2 : Int32), fX3_meanVividness_13 S n x1 x2 = some r1 → ∀ (H : Heap) (locs : List Loc) (ls : Array Slot), gW D ((xw cI q) S) ((xw cI q) S) s H locs → lv_has ls 3 [(0, .ref (q 0)), (1, .int x1), (2, .int x2)] → W p l e ({ frames := 0, cells := 0, slots := 0, locals := 0 } : Room) s m args below meth c H locs 0 0 (MQ below (gQd D (xw cI q) S (fun (r : UInt64) (u : St) => r = r1 ∧ u = S) s.heap.size) args s 0 0 (va_A ((xw cI q) S) s.heap.size)) (F0 m 13 ls []) := by
  intro n
  induction n with
  | zero => intro x1 x2 hf; rw [fX3_meanVividness_13] at hf; cases hf
  | succ n ih =>
    intro x1 x2 hf H locs ls hw hl
    rw [fX3_meanVividness_13] at hf
    refine lv_iload_n C.1 C.2.1 dX3_meanVividness_13 rfl (lv_at hl 2 rfl) ?_
    refine lv_aload_n C.1 C.2.1 dX3_meanVividness_14 rfl (lv_at hl 0 rfl) ?_
    refine g_get C E hw inW3 0 rfl rfl 7 (by decide) kf_X3_84 rfl dX3_meanVividness_15 ?_
    refine lv_icmp_ge (tgt := 36) C.1 C.2.1 dX3_meanVividness_18 (by decide) (fun hc => ?_) (fun hc => ?_)
    · have hf := ift hc hf
      refine lv_iload_n C.1 C.2.1 dX3_meanVividness_36 rfl (lv_at hl 1 rfl) ?_
      refine lv_i2d C.1 C.2.1 dX3_meanVividness_37 ?_
      refine lv_aload_n C.1 C.2.1 dX3_meanVividness_38 rfl (lv_at hl 0 rfl) ?_
      refine g_get C E hw inW3 0 rfl rfl 7 (by decide) kf_X3_84 rfl dX3_meanVividness_39 ?_
      refine lv_i2d C.1 C.2.1 dX3_meanVividness_42 ?_
      obtain ⟨v_1, hv_1, hf⟩ := bnd hf
      refine g_ddiv C hv_1 dX3_meanVividness_43 ?_
      exact g_dret C hw (Nat.le_of_ble_eq_true rfl) (Nat.le_of_ble_eq_true rfl) ⟨Option.some.inj hf, rfl⟩ dX3_meanVividness_44
    · have hf := iff_ hc hf
      refine lv_iload_n C.1 C.2.1 dX3_meanVividness_21 rfl (lv_at hl 1 rfl) ?_
      refine lv_aload_n C.1 C.2.1 dX3_meanVividness_22 rfl (lv_at hl 0 rfl) ?_
      refine g_get C E hw inW3 0 rfl rfl 5 (by decide) kf_X3_37 rfl dX3_meanVividness_23 ?_
      refine lv_iload_n C.1 C.2.1 dX3_meanVividness_26 rfl (lv_at hl 2 rfl) ?_
      obtain ⟨v_2, hv_2, hf⟩ := bnd hf
      refine g_ald C E hw 6 rfl (ld_some hv_2) dX3_meanVividness_27 ?_
      refine lv_iadd C.1 C.2.1 dX3_meanVividness_28 ?_
      obtain ⟨x1_3, hx1_3, hf⟩ := bnd hf
      refine topi_b hx1_3 ?_
      refine lv_istore_n (lv' := [(1, .int x1_3), (0, .ref (q 0)), (2, .int x2)]) C.1 C.2.1 dX3_meanVividness_29 rfl hl (by decide) rfl (fun ls hl => ?_)
      obtain ⟨x2_4, hx2_4, hf⟩ := bnd hf
      refine lv_iinc (v := x2_4) (lv' := [(2, .int x2_4), (1, .int x1_3), (0, .ref (q 0))]) C.1 C.2.1 dX3_meanVividness_30 hl (k := 2) rfl (inc1 hx2_4) (by decide) rfl (fun ls hl => ?_)
      refine lv_goto (tgt := 13) C.1 C.2.1 dX3_meanVividness_33 (by decide) ?_
      exact ih x1_3 x2_4 hf _ _ _ hw (lv_sub hl [2, 1, 0] rfl)
def fX3_meanVividness (S : St) : Option UInt64 :=
  if (S 12 0) = 0 then
    some 0
  else
    fX3_meanVividness_13 S 100 0 0
set_option maxHeartbeats 4000000 in
set_option maxRecDepth 100000 in
theorem ctX3_meanVividness (l : Launch) {D : va_G} {cI : ClassId} {q : Nat → Nat} (S : St) (sz : Nat) {r1 : UInt64} (hf : fX3_meanVividness S = some r1) : Met l yX3_meanVividness (Cond.code yX3_meanVividness cX3_meanVividness 3 (some .double) :: XALL) ({ frames := 0, cells := 0, slots := 0, locals := 0 } : Room) (va_Pc [.ref (q 0)] (gPre D cI ((xw cI q) S) sz)) (gQd D (xw cI q) S (fun (r : UInt64) (u : St) => r = r1 ∧ u = S) sz) 0 0 (va_A ((xw cI q) S) sz) := by
  unfold fX3_meanVividness at hf
  refine Met.ofW (cc := cX3_meanVividness) (maxL := 3) (ret := (some .double)) (by decide) rfl ?_
  intro p e s m args below meth c s₁ B hml hv
  obtain ⟨rfl, hg⟩ := hv
  have C : Ctx p s m _ meth c cX3_meanVividness 3 RX3 (some .double) := Ctx.of B hml rfl
  obtain ⟨E, hw, hsz⟩ := g_start hg
  subst hsz
  have hl := lv_entry ([.ref (q 0)]) (n := 3) (Nat.le_of_ble_eq_true rfl)
  rw [lg_entry_eq]
  generalize (lg_sl ([.ref (q 0)]) ++ List.replicate (3 - (lg_sl ([.ref (q 0)])).length) Slot.unset).toArray = ls at hl ⊢
  have hl : lv_has ls 3 [(0, .ref (q 0))] := hl
  refine lv_aload_n C.1 C.2.1 dX3_meanVividness_0 rfl (lv_at hl 0 rfl) ?_
  refine g_get C E hw inW3 0 rfl rfl 7 (by decide) kf_X3_84 rfl dX3_meanVividness_1 ?_
  refine lv_if_ne (tgt := 9) C.1 C.2.1 dX3_meanVividness_4 (by decide) (fun hc => ?_) (fun hc => ?_)
  · have hf := iff_ hc hf
    refine lv_iconst (v := 0) C.1 C.2.1 dX3_meanVividness_9 (by decide) ?_
    refine lv_istore_n (lv' := [(1, .int 0), (0, .ref (q 0))]) C.1 C.2.1 dX3_meanVividness_10 rfl hl (by decide) rfl (fun ls hl => ?_)
    refine lv_iconst (v := 0) C.1 C.2.1 dX3_meanVividness_11 (by decide) ?_
    refine lv_istore_n (lv' := [(2, .int 0), (1, .int 0), (0, .ref (q 0))]) C.1 C.2.1 dX3_meanVividness_12 rfl hl (by decide) rfl (fun ls hl => ?_)
    exact wX3_meanVividness_13 C E S 100 0 0 hf _ _ _ hw (lv_sub hl [2, 1, 0] rfl)
  · have hf := ift hc hf
    refine g_dconst0 C dX3_meanVividness_7 ?_
    exact g_dret C hw (Nat.le_of_ble_eq_true rfl) (Nat.le_of_ble_eq_true rfl) ⟨Option.some.inj hf, rfl⟩ dX3_meanVividness_8
end
section
/-! CONSTRUCTORS: new rows and objects -/
section BASEI
variable {p : Program} {l : Launch} {e : Env} {R : Room} {s : State} {m : MethodId} {args : Array Value} {below : List Frame} {meth : Method} {c : Code} {H : Heap} {locs : List Loc} {cells slots : Nat} {Q : State → Prop}
variable {cc bytes : ByteArray} {nL maxL : Nat} {own : String} {ret rt : Option FieldType} {D : va_G} {cI : ClassId} {pc : Nat} {ls : Array Slot} {rest st0 : List Value} {ws0 : va_W} {host : String}
theorem g_newa (C : Ctx p s m args meth c cc nL own ret) (E : gE D cI s) {ws : va_W} (hw : gW D ws0 ws s H locs) {n : Int32} (N : Nat) (hn : ¬ n < 0) (hN : n.toNatClampNeg = N) (hb : N * componentBytes .int ≤ 536870912) (hc : cells + 1 ≤ R.cells) (hs : slots + N ≤ R.slots) (hdg : decode cc pc = .ok (.newarray .int, 2))
    (kk : ∀ (qa : Nat) (H : Heap) (locs : List Loc), gW D ws0 (ws ++ [(qa, .inl (cI, N, .inl (fun _ => 0)))]) s H locs → W p l e R s m args below meth c H locs (cells + 1) (slots + N) Q (F0 m (pc + 2) ls (.ref qa :: rest))) : W p l e R s m args below meth c H locs cells slots Q (F0 m pc ls (.int n :: rest)) := by
  refine va_newa (atype := .int) C.1 C.2.1 (C.2.2.2.2.1 _ ka_int) (ty := .int) rfl E.1 hw.1 hw.2.1 hw.2.2 (fun _ h => Or.inr h) (N' := N) (a0 := (N, .inl (fun _ => 0))) (fun _ => rfl) hn hN hb hc hs hdg ?_
  intro qn cA H1 hK hP hD hS
  have h1 : s.vm.findClass ("[" ++ (FieldType.int).toString) = some cA := (hK.2 1 (cA, .int) rfl).2
  have h2 : s.vm.findClass ("[" ++ (FieldType.int).toString) = some cI := (hK.2 0 (cI, .int) rfl).2
  have h3 : cA = cI := Option.some.inj (h1.symm.trans h2)
  subst h3
  exact kk qn H1 locs ⟨hP, hD, hS⟩
theorem g_newo (C : Ctx p s m args meth c cc nL own ret) (E : gE D cI s) {ws : va_W} (hw : gW D ws0 ws s H locs) {Cn : String} {T : u_T} {N ci index : Nat} (hin : ∀ w ∈ u_ws Cn T N, w ∈ XALL) (ty : Nat → FieldType) (hty : ∀ k, k < N → parseFieldDescriptor (T k).2.2.1 = some (ty k)) (hcl : Cond.classLink own index Cn ∈ XALL) (hinst : Cond.instantiable Cn N ∈ XALL) (hini : Cond.initialized Cn ∈ XALL)
    (hc : vwCl[ci]? = some (Cn, T, N)) {fs : List Value} (hfs : ∀ j, j < N → defaultValue (ty j) = vp_V fs j) (hcells : cells + 1 ≤ R.cells) (hslots : slots + N ≤ R.slots) (hdg : decode cc pc = .ok (.new index, 3))
    (kk : ∀ (qa : Nat) (H : Heap) (locs : List Loc), gW D ws0 (ws ++ [(qa, .inr (ci, fs))]) s H locs → W p l e R s m args below meth c H locs (cells + 1) (slots + N) Q (F0 m (pc + 3) ls (.ref qa :: rest))) : W p l e R s m args below meth c H locs cells slots Q (F0 m pc ls rest) :=
  va_new C.1 C.2.1 C.2.2.2.2.1 hin ty hty C.2.2.2.1 (C.2.2.2.2.1 _ hcl) (C.2.2.2.2.1 _ hinst) (C.2.2.2.2.1 _ hini) E.1 hw.1 hw.2.1 hw.2.2 (fun _ h => Or.inr h) hc hfs hcells hslots hdg (fun q H1 hP hD hS => kk q H1 locs ⟨hP, hD, hS⟩)
theorem g_putF (C : Ctx p s m args meth c cc nL own ret) (E : gE D cI s) (hmi : meth.name = "<init>") {ws ws' : va_W} (hw : gW D ws0 ws s H locs) {Cn : String} {T : u_T} {N ci index : Nat} {b : Nat} (hin : ∀ w ∈ u_ws Cn T N, w ∈ XALL) (ty0 : Nat → FieldType) (hty : ∀ k, k < N → parseFieldDescriptor (T k).2.2.1 = some (ty0 k)) (hnm : ∀ a, a < N → ∀ b, b < N → a ≠ b → (T a).2.1 ≠ (T b).2.1) (q0 : Nat) {fs : List Value} (he : ws[q0]? = some (b, .inr (ci, fs))) (hc : vwCl[ci]? = some (Cn, T, N)) (k : Nat) (hk : k < N)
    (hl : Cond.fieldLink own index (T k).1 (T k).2.1 (T k).2.2.1 ∈ XALL) (hfin : (T k).2.2.2 = true) (hdecl : (T k).1 = own) {ty : FieldType} (hd : parseFieldDescriptor (T k).2.2.1 = some ty) {v : Value} (hn : narrow ty v = v) (hfit : fits ty v = true) (hlen : k < fs.length) (hset : ws.set q0 (b, .inr (ci, fs.set k v)) = ws') (hdg : decode cc pc = .ok (.putfield index, 3)) (kk : ∀ (H : Heap) (locs : List Loc), gW D ws0 ws' s H locs → W p l e R s m args below meth c H locs cells slots Q (F0 m (pc + 3) ls rest)) : W p l e R s m args below meth c H locs cells slots Q (F0 m pc ls (v :: .ref b :: rest)) :=
  va_putF C.1 C.2.1 C.2.2.2.2.1 hin ty0 hty hnm C.2.2.2.1 E.1 hw.1 hw.2.1 hw.2.2 q0 he hc k hk (C.2.2.2.2.1 _ hl) (fun _ h => h) hfin hmi hdecl hd hn hfit hlen hdg (fun H1 locs1 hP hD hS => kk H1 locs1 (by rw [← hset]; exact ⟨hP, hD, hS⟩))
/-- what an initialiser makes of its cell: w1 u, for some u -/
abbrev gQn {ι : Type} (D : va_G) (w1 : ι → va_W) (w0 : va_W) (sz : Nat) : Array Value → State → Outcome → State → Prop := va_Qv (fun _ : ι => True) (fun u t => va_P D vwCl (w1 u) t.heap ∧ va_D (va_A w0 sz) (w1 u)) (va_A w0 sz)
variable {ι : Type} {w1 : ι → va_W} {ws wc wr : va_W} {b : Nat} {rm : Room} {y : MethodName} {index n : Nat}
theorem g_init9 {a : Array Value} {mc ms : Nat} (hw : gW D ws0 ws s H locs) (hr : va_Run p l e R s m args below meth c H locs cells slots mc ms (F0 m pc ls st0) rest (gQn D w1 wc H.size a) (va_A wc H.size)) (isC isR : List Nat) (hC : isC.map (fun i => ws[i]?) = wc.map some) (hR : isR.map (fun i => ws[i]?) = wr.map some) (hn : va_nd isR = true) (hdis : ∀ i ∈ isR, i ∉ isC)
    (kk : ∀ (u : ι) (H : Heap) (locs : List Loc), gW D ws0 (wr ++ w1 u) s H locs → W p l e R s m args below meth c H locs (cells + mc) (slots + ms) Q (F0 m (pc + 3) ls rest)) : W p l e R s m args below meth c H locs cells slots Q (F0 m pc ls st0) := by
  have hF := va_free hw.2.1 hw.2.2 (fun _ h => Or.inr h) isC hC
  refine va_callv hr hw.2.2 (fun q _ h => hF q h) hF (fun u t H1 locs1 ht _ _ hB _ hk hS => ?_)
  obtain ⟨hP1, hD1⟩ := hB
  rw [ht] at hP1
  obtain ⟨hP, hD⟩ := va_join hw.1 hw.2.1 isC isR hC hR hn hdis hk hF hP1 hD1
  exact kk u H1 locs1 ⟨hP, hD, hS⟩
theorem gPre_sub (E : gE D cI s) (hw : gW D ws0 ws s H locs) (isC : List Nat) (hC : isC.map (fun i => ws[i]?) = wc.map some) (hn : va_nd isC = true) {U : State} (hU : U.heap = H) (hW : s.WarmedH U.vm) : gPre D cI wc H.size U := by
  refine ⟨by rw [hU], ?_, va_K.moved hW.alike E.1, (hw.2.1.sub isC hn hC).weaken (fun _ _ _ _ => trivial), xEnv.warm hW E.2⟩
  rw [hU]
  refine hw.1.sub isC ?_
  have h1 : (isC.map (fun i => ws[i]?)).filterMap id = (wc.map some).filterMap id := by rw [hC]
  rw [List.filterMap_map, List.filterMap_map] at h1
  simpa using h1
theorem g_runIN (C : Ctx p s m args meth c cc nL own ret) (E : gE D cI s) (hw : gW D ws0 ws s H locs) (isC : List Nat) (hC : isC.map (fun i => ws[i]?) = wc.map some) (hnd : va_nd isC = true) (F : Fct y bytes maxL none 0) (hyi : y.name = "<init>") (hin : Cond.instanceMethod y ∈ XALL) {Qc : Array Value → State → Outcome → State → Prop} {free : Addr → Prop} (hM : Met l y (Cond.code y bytes maxL none :: XALL) rm (va_Pc [.ref b] (gPre D cI wc H.size)) Qc rm.cells rm.slots free) (hk : Cond.methodLinkNest own index y host ∈ NW)
    (hsize : ls.size = nL) (hr8 : (rest.map fun v => v.category).sum ≤ 8) (hR : rm.frames + 1 ≤ R.frames ∧ 8 + (maxL + 11) + rm.locals ≤ R.locals) (hf : cells + rm.cells ≤ R.cells ∧ slots + rm.slots ≤ R.slots) (hdg : decode cc pc = .ok (.invokespecial index, 3)) :
    va_Run p l e R s m args below meth c H locs cells slots rm.cells rm.slots (F0 m pc ls (.ref b :: rest)) rest (Qc [Value.ref b].toArray) free :=
  va_runIN (As := []) C.fix hM ⟨fct_N C E F hk hR, hyi, C.2.2.2.2.1 _ hin⟩ ⟨gPre_blind, fun U hU hW => ⟨rfl, gPre_sub E hw isC hC hnd hU hW⟩⟩ rfl rfl hsize rfl (lv_room hr8) hdg hf
theorem g_runI (C : Ctx p s m args meth c cc nL own ret) (E : gE D cI s) (hw : gW D ws0 ws s H locs) (isC : List Nat) (hC : isC.map (fun i => ws[i]?) = wc.map some) (hnd : va_nd isC = true) (F : Fct y bytes maxL none 0) (hyi : y.name = "<init>") (hin : Cond.instanceMethod y ∈ XALL) {Qc : Array Value → State → Outcome → State → Prop} {free : Addr → Prop} (hM : Met l y (Cond.code y bytes maxL none :: XALL) rm (va_Pc [.ref b] (gPre D cI wc H.size)) Qc rm.cells rm.slots free) (hk : Cond.methodLink own index y ∈ XALL)
    (hsize : ls.size = nL) (hr8 : (rest.map fun v => v.category).sum ≤ 8) (hR : rm.frames + 1 ≤ R.frames ∧ 8 + (maxL + 11) + rm.locals ≤ R.locals) (hf : cells + rm.cells ≤ R.cells ∧ slots + rm.slots ≤ R.slots) (hdg : decode cc pc = .ok (.invokespecial index, 3)) :
    va_Run p l e R s m args below meth c H locs cells slots rm.cells rm.slots (F0 m pc ls (.ref b :: rest)) rest (Qc [Value.ref b].toArray) free :=
  va_runI (As := []) C.fix hM ⟨fct_B C F hk hR, hyi, C.2.2.2.2.1 _ hin⟩ ⟨gPre_blind, fun U hU hW => ⟨rfl, gPre_sub E hw isC hC hnd hU hW⟩⟩ rfl rfl hsize rfl (lv_room hr8) hdg hf
theorem g_nret (C : Ctx p s m args meth c cc nL own none) {w0 : va_W} (u : ι) (hw : gW D w0 (w1 u) s H locs) {mc ms : Nat} (hc : cells ≤ mc) (hs : slots ≤ ms) (hdg : decode cc pc = .ok (.return_, 1)) :
    W p l e R s m args below meth c H locs cells slots (MQ below (gQn D w1 w0 s.heap.size) args s mc ms (va_A w0 s.heap.size)) (F0 m pc ls []) :=
  W.widen hc hs (W.vret C.1 C.2.1 C.2.2.2.2.2.1 (fun t ht hW => ⟨⟨u, rfl, trivial, by rw [ht]; exact hw.1, hw.2.1⟩, hw.2.2.F ht⟩) hw.2.2.2.2 hdg C.2.2.2.2.2.2)
end BASEI
end
section
def wi_X1 (cI : ClassId) (h0 : Nat) (u : Nat → Nat) : va_W := [(h0, .inr (1, [.ref (u 0), .ref (u 1), .int 0])), (u 0, .inl (cI, 16, .inl (fun _ => 0))), (u 1, .inl (cI, 16, .inl (fun _ => 0)))]
theorem Fi_X1 : Fct yX1_init cX1_init 1 none 0 := ⟨kc_yX1_init, kz_X1, by decide +kernel, by decide +kernel, by decide +kernel⟩
set_option maxHeartbeats 4000000 in
set_option maxRecDepth 100000 in
theorem cti_X1 (l : Launch) {D : va_G} {cI : ClassId} (h0 sz : Nat) : Met l yX1_init (Cond.code yX1_init cX1_init 1 none :: XALL) ({ frames := 1, cells := 2, slots := 32, locals := 20 } : Room) (va_Pc [.ref h0] (gPre D cI [(h0, .inr (1, [.null, .null, .int 0]))] sz)) (gQn D (wi_X1 cI h0) [(h0, .inr (1, [.null, .null, .int 0]))] sz) 2 32 (va_A [(h0, .inr (1, [.null, .null, .int 0]))] sz) := by
  refine Met.ofW (cc := cX1_init) (maxL := 1) (ret := none) (by decide) rfl ?_
  intro p e s m args below meth c s₁ B hml hv
  obtain ⟨rfl, hg⟩ := hv
  have C : Ctx p s m _ meth c cX1_init 1 RX1 none := Ctx.of B hml rfl
  have hmi : meth.name = "<init>" := (name_of_methodNamed B.named B.method).1
  obtain ⟨E, hw, hsz⟩ := g_start hg
  subst hsz
  have hl := lv_entry ([.ref h0]) (n := 1) (Nat.le_of_ble_eq_true rfl)
  rw [lg_entry_eq]
  generalize (lg_sl ([.ref h0]) ++ List.replicate (1 - (lg_sl ([.ref h0])).length) Slot.unset).toArray = ls at hl ⊢
  have hl : lv_has ls 1 [(0, .ref h0)] := hl
  refine lv_aload_n C.1 C.2.1 dX1_init_0 rfl (lv_at hl 0 rfl) ?_
  refine W.objInit C.1 C.2.1 C.2.2.2.1 (C.2.2.2.2.1 _ km_X1_3) (C.2.2.2.2.1 _ ki_objectInit) (C.2.2.2.2.1 _ kc_objectInit) rfl (by rw [C.2.2.1]; exact hl.1) rfl dX1_init_1 (Nat.le_of_ble_eq_true rfl) (Nat.le_of_ble_eq_true rfl) ?_
  refine W.eq (g2 := F0 m 4 ls []) rfl ?_
  refine lv_aload_n C.1 C.2.1 dX1_init_4 rfl (lv_at hl 0 rfl) ?_
  refine lv_bipush (v := 16) C.1 C.2.1 dX1_init_5 (by decide) ?_
  refine g_newa C E hw 16 (by decide) (by decide) (by decide) (Nat.le_of_ble_eq_true rfl) (Nat.le_of_ble_eq_true rfl) dX1_init_7 (fun a7 H locs hw => ?_)
  have hw : gW D [(h0, .inr (1, [.null, .null, .int 0]))] [(h0, .inr (1, [.null, .null, .int 0])), (a7, .inl (cI, 16, .inl (fun _ => 0)))] s H locs := hw
  refine g_putF (ty := .array .int) C E hmi hw inW1 tyX1 tyX1_ok nmX1 0 rfl rfl 0 (by decide) kf_X1_9 rfl rfl (by decide +kernel) rfl rfl (Nat.le_of_ble_eq_true rfl) (ws' := [(h0, .inr (1, [.ref a7, .null, .int 0])), (a7, .inl (cI, 16, .inl (fun _ => 0)))]) rfl dX1_init_9 (fun H locs hw => ?_)
  refine lv_aload_n C.1 C.2.1 dX1_init_12 rfl (lv_at hl 0 rfl) ?_
  refine lv_bipush (v := 16) C.1 C.2.1 dX1_init_13 (by decide) ?_
  refine g_newa C E hw 16 (by decide) (by decide) (by decide) (Nat.le_of_ble_eq_true rfl) (Nat.le_of_ble_eq_true rfl) dX1_init_15 (fun a15 H locs hw => ?_)
  have hw : gW D [(h0, .inr (1, [.null, .null, .int 0]))] [(h0, .inr (1, [.ref a7, .null, .int 0])), (a7, .inl (cI, 16, .inl (fun _ => 0))), (a15, .inl (cI, 16, .inl (fun _ => 0)))] s H locs := hw
  refine g_putF (ty := .array .int) C E hmi hw inW1 tyX1 tyX1_ok nmX1 0 rfl rfl 1 (by decide) kf_X1_15 rfl rfl (by decide +kernel) rfl rfl (Nat.le_of_ble_eq_true rfl) (ws' := [(h0, .inr (1, [.ref a7, .ref a15, .int 0])), (a7, .inl (cI, 16, .inl (fun _ => 0))), (a15, .inl (cI, 16, .inl (fun _ => 0)))]) rfl dX1_init_17 (fun H locs hw => ?_)
  exact g_nret (w1 := wi_X1 cI h0) C (fun i => [a7, a15].getD i 0) hw (Nat.le_of_ble_eq_true rfl) (Nat.le_of_ble_eq_true rfl) dX1_init_20
def wi_X2 (cI : ClassId) (h0 : Nat) (u : Nat → Nat) : va_W := [(h0, .inr (2, [.ref (u 0), .ref (u 1), .ref (u 2), .ref (u 3), .int 0])), (u 0, .inl (cI, 20, .inl (fun _ => 0))), (u 1, .inl (cI, 20, .inl (fun _ => 0))), (u 2, .inl (cI, 20, .inl (fun _ => 0))), (u 3, .inl (cI, 20, .inl (fun _ => 0)))]
theorem Fi_X2 : Fct yX2_init cX2_init 1 none 0 := ⟨kc_yX2_init, kz_X2, by decide +kernel, by decide +kernel, by decide +kernel⟩
set_option maxHeartbeats 4000000 in
set_option maxRecDepth 100000 in
theorem cti_X2 (l : Launch) {D : va_G} {cI : ClassId} (h0 sz : Nat) : Met l yX2_init (Cond.code yX2_init cX2_init 1 none :: XALL) ({ frames := 1, cells := 4, slots := 80, locals := 20 } : Room) (va_Pc [.ref h0] (gPre D cI [(h0, .inr (2, [.null, .null, .null, .null, .int 0]))] sz)) (gQn D (wi_X2 cI h0) [(h0, .inr (2, [.null, .null, .null, .null, .int 0]))] sz) 4 80 (va_A [(h0, .inr (2, [.null, .null, .null, .null, .int 0]))] sz) := by
  refine Met.ofW (cc := cX2_init) (maxL := 1) (ret := none) (by decide) rfl ?_
  intro p e s m args below meth c s₁ B hml hv
  obtain ⟨rfl, hg⟩ := hv
  have C : Ctx p s m _ meth c cX2_init 1 RX2 none := Ctx.of B hml rfl
  have hmi : meth.name = "<init>" := (name_of_methodNamed B.named B.method).1
  obtain ⟨E, hw, hsz⟩ := g_start hg
  subst hsz
  have hl := lv_entry ([.ref h0]) (n := 1) (Nat.le_of_ble_eq_true rfl)
  rw [lg_entry_eq]
  generalize (lg_sl ([.ref h0]) ++ List.replicate (1 - (lg_sl ([.ref h0])).length) Slot.unset).toArray = ls at hl ⊢
  have hl : lv_has ls 1 [(0, .ref h0)] := hl
  refine lv_aload_n C.1 C.2.1 dX2_init_0 rfl (lv_at hl 0 rfl) ?_
  refine W.objInit C.1 C.2.1 C.2.2.2.1 (C.2.2.2.2.1 _ km_X2_3) (C.2.2.2.2.1 _ ki_objectInit) (C.2.2.2.2.1 _ kc_objectInit) rfl (by rw [C.2.2.1]; exact hl.1) rfl dX2_init_1 (Nat.le_of_ble_eq_true rfl) (Nat.le_of_ble_eq_true rfl) ?_
  refine W.eq (g2 := F0 m 4 ls []) rfl ?_
  refine lv_aload_n C.1 C.2.1 dX2_init_4 rfl (lv_at hl 0 rfl) ?_
  refine lv_bipush (v := 20) C.1 C.2.1 dX2_init_5 (by decide) ?_
  refine g_newa C E hw 20 (by decide) (by decide) (by decide) (Nat.le_of_ble_eq_true rfl) (Nat.le_of_ble_eq_true rfl) dX2_init_7 (fun a7 H locs hw => ?_)
  have hw : gW D [(h0, .inr (2, [.null, .null, .null, .null, .int 0]))] [(h0, .inr (2, [.null, .null, .null, .null, .int 0])), (a7, .inl (cI, 20, .inl (fun _ => 0)))] s H locs := hw
  refine g_putF (ty := .array .int) C E hmi hw inW2 tyX2 tyX2_ok nmX2 0 rfl rfl 0 (by decide) kf_X2_9 rfl rfl (by decide +kernel) rfl rfl (Nat.le_of_ble_eq_true rfl) (ws' := [(h0, .inr (2, [.ref a7, .null, .null, .null, .int 0])), (a7, .inl (cI, 20, .inl (fun _ => 0)))]) rfl dX2_init_9 (fun H locs hw => ?_)
  refine lv_aload_n C.1 C.2.1 dX2_init_12 rfl (lv_at hl 0 rfl) ?_
  refine lv_bipush (v := 20) C.1 C.2.1 dX2_init_13 (by decide) ?_
  refine g_newa C E hw 20 (by decide) (by decide) (by decide) (Nat.le_of_ble_eq_true rfl) (Nat.le_of_ble_eq_true rfl) dX2_init_15 (fun a15 H locs hw => ?_)
  have hw : gW D [(h0, .inr (2, [.null, .null, .null, .null, .int 0]))] [(h0, .inr (2, [.ref a7, .null, .null, .null, .int 0])), (a7, .inl (cI, 20, .inl (fun _ => 0))), (a15, .inl (cI, 20, .inl (fun _ => 0)))] s H locs := hw
  refine g_putF (ty := .array .int) C E hmi hw inW2 tyX2 tyX2_ok nmX2 0 rfl rfl 1 (by decide) kf_X2_15 rfl rfl (by decide +kernel) rfl rfl (Nat.le_of_ble_eq_true rfl) (ws' := [(h0, .inr (2, [.ref a7, .ref a15, .null, .null, .int 0])), (a7, .inl (cI, 20, .inl (fun _ => 0))), (a15, .inl (cI, 20, .inl (fun _ => 0)))]) rfl dX2_init_17 (fun H locs hw => ?_)
  refine lv_aload_n C.1 C.2.1 dX2_init_20 rfl (lv_at hl 0 rfl) ?_
  refine lv_bipush (v := 20) C.1 C.2.1 dX2_init_21 (by decide) ?_
  refine g_newa C E hw 20 (by decide) (by decide) (by decide) (Nat.le_of_ble_eq_true rfl) (Nat.le_of_ble_eq_true rfl) dX2_init_23 (fun a23 H locs hw => ?_)
  have hw : gW D [(h0, .inr (2, [.null, .null, .null, .null, .int 0]))] [(h0, .inr (2, [.ref a7, .ref a15, .null, .null, .int 0])), (a7, .inl (cI, 20, .inl (fun _ => 0))), (a15, .inl (cI, 20, .inl (fun _ => 0))), (a23, .inl (cI, 20, .inl (fun _ => 0)))] s H locs := hw
  refine g_putF (ty := .array .int) C E hmi hw inW2 tyX2 tyX2_ok nmX2 0 rfl rfl 2 (by decide) kf_X2_18 rfl rfl (by decide +kernel) rfl rfl (Nat.le_of_ble_eq_true rfl) (ws' := [(h0, .inr (2, [.ref a7, .ref a15, .ref a23, .null, .int 0])), (a7, .inl (cI, 20, .inl (fun _ => 0))), (a15, .inl (cI, 20, .inl (fun _ => 0))), (a23, .inl (cI, 20, .inl (fun _ => 0)))]) rfl dX2_init_25 (fun H locs hw => ?_)
  refine lv_aload_n C.1 C.2.1 dX2_init_28 rfl (lv_at hl 0 rfl) ?_
  refine lv_bipush (v := 20) C.1 C.2.1 dX2_init_29 (by decide) ?_
  refine g_newa C E hw 20 (by decide) (by decide) (by decide) (Nat.le_of_ble_eq_true rfl) (Nat.le_of_ble_eq_true rfl) dX2_init_31 (fun a31 H locs hw => ?_)
  have hw : gW D [(h0, .inr (2, [.null, .null, .null, .null, .int 0]))] [(h0, .inr (2, [.ref a7, .ref a15, .ref a23, .null, .int 0])), (a7, .inl (cI, 20, .inl (fun _ => 0))), (a15, .inl (cI, 20, .inl (fun _ => 0))), (a23, .inl (cI, 20, .inl (fun _ => 0))), (a31, .inl (cI, 20, .inl (fun _ => 0)))] s H locs := hw
  refine g_putF (ty := .array .int) C E hmi hw inW2 tyX2 tyX2_ok nmX2 0 rfl rfl 3 (by decide) kf_X2_21 rfl rfl (by decide +kernel) rfl rfl (Nat.le_of_ble_eq_true rfl) (ws' := [(h0, .inr (2, [.ref a7, .ref a15, .ref a23, .ref a31, .int 0])), (a7, .inl (cI, 20, .inl (fun _ => 0))), (a15, .inl (cI, 20, .inl (fun _ => 0))), (a23, .inl (cI, 20, .inl (fun _ => 0))), (a31, .inl (cI, 20, .inl (fun _ => 0)))]) rfl dX2_init_33 (fun H locs hw => ?_)
  exact g_nret (w1 := wi_X2 cI h0) C (fun i => [a7, a15, a23, a31].getD i 0) hw (Nat.le_of_ble_eq_true rfl) (Nat.le_of_ble_eq_true rfl) dX2_init_36
def wi_X0 (cI : ClassId) (h0 : Nat) (u : Nat → Nat) : va_W := [(h0, .inr (0, [.ref (u 0), .ref (u 1)])), (u 0, .inl (cI, 16, .inl (fun _ => 0))), (u 1, .inl (cI, 17, .inl (fun _ => 0)))]
theorem Fi_X0 : Fct yX0_init cX0_init 1 none 0 := ⟨kc_yX0_init, kz_X0, by decide +kernel, by decide +kernel, by decide +kernel⟩
set_option maxHeartbeats 4000000 in
set_option maxRecDepth 100000 in
theorem cti_X0 (l : Launch) {D : va_G} {cI : ClassId} (h0 sz : Nat) : Met l yX0_init (Cond.code yX0_init cX0_init 1 none :: XALL) ({ frames := 1, cells := 2, slots := 33, locals := 20 } : Room) (va_Pc [.ref h0] (gPre D cI [(h0, .inr (0, [.null, .null]))] sz)) (gQn D (wi_X0 cI h0) [(h0, .inr (0, [.null, .null]))] sz) 2 33 (va_A [(h0, .inr (0, [.null, .null]))] sz) := by
  refine Met.ofW (cc := cX0_init) (maxL := 1) (ret := none) (by decide) rfl ?_
  intro p e s m args below meth c s₁ B hml hv
  obtain ⟨rfl, hg⟩ := hv
  have C : Ctx p s m _ meth c cX0_init 1 RX0 none := Ctx.of B hml rfl
  have hmi : meth.name = "<init>" := (name_of_methodNamed B.named B.method).1
  obtain ⟨E, hw, hsz⟩ := g_start hg
  subst hsz
  have hl := lv_entry ([.ref h0]) (n := 1) (Nat.le_of_ble_eq_true rfl)
  rw [lg_entry_eq]
  generalize (lg_sl ([.ref h0]) ++ List.replicate (1 - (lg_sl ([.ref h0])).length) Slot.unset).toArray = ls at hl ⊢
  have hl : lv_has ls 1 [(0, .ref h0)] := hl
  refine lv_aload_n C.1 C.2.1 dX0_init_0 rfl (lv_at hl 0 rfl) ?_
  refine W.objInit C.1 C.2.1 C.2.2.2.1 (C.2.2.2.2.1 _ km_X0_3) (C.2.2.2.2.1 _ ki_objectInit) (C.2.2.2.2.1 _ kc_objectInit) rfl (by rw [C.2.2.1]; exact hl.1) rfl dX0_init_1 (Nat.le_of_ble_eq_true rfl) (Nat.le_of_ble_eq_true rfl) ?_
  refine W.eq (g2 := F0 m 4 ls []) rfl ?_
  refine lv_aload_n C.1 C.2.1 dX0_init_4 rfl (lv_at hl 0 rfl) ?_
  refine lv_bipush (v := 16) C.1 C.2.1 dX0_init_5 (by decide) ?_
  refine g_newa C E hw 16 (by decide) (by decide) (by decide) (Nat.le_of_ble_eq_true rfl) (Nat.le_of_ble_eq_true rfl) dX0_init_7 (fun a7 H locs hw => ?_)
  have hw : gW D [(h0, .inr (0, [.null, .null]))] [(h0, .inr (0, [.null, .null])), (a7, .inl (cI, 16, .inl (fun _ => 0)))] s H locs := hw
  refine g_putF (ty := .array .int) C E hmi hw inW0 tyX0 tyX0_ok nmX0 0 rfl rfl 0 (by decide) kf_X0_9 rfl rfl (by decide +kernel) rfl rfl (Nat.le_of_ble_eq_true rfl) (ws' := [(h0, .inr (0, [.ref a7, .null])), (a7, .inl (cI, 16, .inl (fun _ => 0)))]) rfl dX0_init_9 (fun H locs hw => ?_)
  refine lv_aload_n C.1 C.2.1 dX0_init_12 rfl (lv_at hl 0 rfl) ?_
  refine lv_bipush (v := 17) C.1 C.2.1 dX0_init_13 (by decide) ?_
  refine g_newa C E hw 17 (by decide) (by decide) (by decide) (Nat.le_of_ble_eq_true rfl) (Nat.le_of_ble_eq_true rfl) dX0_init_15 (fun a15 H locs hw => ?_)
  have hw : gW D [(h0, .inr (0, [.null, .null]))] [(h0, .inr (0, [.ref a7, .null])), (a7, .inl (cI, 16, .inl (fun _ => 0))), (a15, .inl (cI, 17, .inl (fun _ => 0)))] s H locs := hw
  refine g_putF (ty := .array .int) C E hmi hw inW0 tyX0 tyX0_ok nmX0 0 rfl rfl 1 (by decide) kf_X0_15 rfl rfl (by decide +kernel) rfl rfl (Nat.le_of_ble_eq_true rfl) (ws' := [(h0, .inr (0, [.ref a7, .ref a15])), (a7, .inl (cI, 16, .inl (fun _ => 0))), (a15, .inl (cI, 17, .inl (fun _ => 0)))]) rfl dX0_init_17 (fun H locs hw => ?_)
  exact g_nret (w1 := wi_X0 cI h0) C (fun i => [a7, a15].getD i 0) hw (Nat.le_of_ble_eq_true rfl) (Nat.le_of_ble_eq_true rfl) dX0_init_20
def wi_X3 (cI : ClassId) (h0 : Nat) (u : Nat → Nat) : va_W := xw cI (fun i => if i = 0 then h0 else u i) (fun _ _ => 0)
theorem Fi_X3 : Fct yX3_init cX3_init 1 none 0 := ⟨kc_yX3_init, kz_X3, by decide +kernel, by decide +kernel, by decide +kernel⟩
set_option maxHeartbeats 4000000 in
set_option maxRecDepth 100000 in
theorem cti_X3 (l : Launch) {D : va_G} {cI : ClassId} (h0 sz : Nat) : Met l yX3_init (Cond.code yX3_init cX3_init 1 none :: XALL) ({ frames := 2, cells := 15, slots := 251, locals := 40 } : Room) (va_Pc [.ref h0] (gPre D cI [(h0, .inr (3, [.null, .null, .null, .null, .null, .null, .null, .int 0, .int 0]))] sz)) (gQn D (wi_X3 cI h0) [(h0, .inr (3, [.null, .null, .null, .null, .null, .null, .null, .int 0, .int 0]))] sz) 15 251 (va_A [(h0, .inr (3, [.null, .null, .null, .null, .null, .null, .null, .int 0, .int 0]))] sz) := by
  refine Met.ofW (cc := cX3_init) (maxL := 1) (ret := none) (by decide) rfl ?_
  intro p e s m args below meth c s₁ B hml hv
  obtain ⟨rfl, hg⟩ := hv
  have C : Ctx p s m _ meth c cX3_init 1 RX3 none := Ctx.of B hml rfl
  have hmi : meth.name = "<init>" := (name_of_methodNamed B.named B.method).1
  obtain ⟨E, hw, hsz⟩ := g_start hg
  subst hsz
  have hl := lv_entry ([.ref h0]) (n := 1) (Nat.le_of_ble_eq_true rfl)
  rw [lg_entry_eq]
  generalize (lg_sl ([.ref h0]) ++ List.replicate (1 - (lg_sl ([.ref h0])).length) Slot.unset).toArray = ls at hl ⊢
  have hl : lv_has ls 1 [(0, .ref h0)] := hl
  refine lv_aload_n C.1 C.2.1 dX3_init_0 rfl (lv_at hl 0 rfl) ?_
  refine W.objInit C.1 C.2.1 C.2.2.2.1 (C.2.2.2.2.1 _ km_X3_1) (C.2.2.2.2.1 _ ki_objectInit) (C.2.2.2.2.1 _ kc_objectInit) rfl (by rw [C.2.2.1]; exact hl.1) rfl dX3_init_1 (Nat.le_of_ble_eq_true rfl) (Nat.le_of_ble_eq_true rfl) ?_
  refine W.eq (g2 := F0 m 4 ls []) rfl ?_
  refine lv_aload_n C.1 C.2.1 dX3_init_4 rfl (lv_at hl 0 rfl) ?_
  refine g_newo (ci := 1) (fs := [.null, .null, .int 0]) C E hw inW1 tyX1 tyX1_ok kl_X3_7 kq_X1 kz_X1 rfl (fun j hj => by rcases (show j = 0 ∨ j = 1 ∨ j = 2 by omega) with rfl | rfl | rfl <;> rfl) (Nat.le_of_ble_eq_true rfl) (Nat.le_of_ble_eq_true rfl) dX3_init_5 (fun o5 H locs hw => ?_)
  have hw : gW D [(h0, .inr (3, [.null, .null, .null, .null, .null, .null, .null, .int 0, .int 0]))] [(h0, .inr (3, [.null, .null, .null, .null, .null, .null, .null, .int 0, .int 0])), (o5, .inr (1, [.null, .null, .int 0]))] s H locs := hw
  refine lv_dup C.1 C.2.1 dX3_init_8 rfl ?_
  refine g_init9 (w1 := wi_X1 cI o5) (wr := [(h0, .inr (3, [.null, .null, .null, .null, .null, .null, .null, .int 0, .int 0]))]) (rest := [.ref o5, .ref h0]) hw (g_runIN (rm := ({ frames := 1, cells := 2, slots := 32, locals := 20 } : Room)) (wc := [(o5, .inr (1, [.null, .null, .int 0]))]) C E hw [1] rfl (by decide) Fi_X1 rfl ki_yX1_init (cti_X1 l o5 _) kmN_X3_9 hl.1 (Nat.le_of_ble_eq_true rfl) ⟨(Nat.le_of_ble_eq_true rfl), (Nat.le_of_ble_eq_true rfl)⟩ ⟨(Nat.le_of_ble_eq_true rfl), (Nat.le_of_ble_eq_true rfl)⟩ dX3_init_9) [1] [0] rfl rfl (by decide) (by decide) (fun u9 H locs hw => ?_)
  have hw : gW D [(h0, .inr (3, [.null, .null, .null, .null, .null, .null, .null, .int 0, .int 0]))] [(h0, .inr (3, [.null, .null, .null, .null, .null, .null, .null, .int 0, .int 0])), (o5, .inr (1, [.ref (u9 0), .ref (u9 1), .int 0])), ((u9 0), .inl (cI, 16, .inl (fun _ => 0))), ((u9 1), .inl (cI, 16, .inl (fun _ => 0)))] s H locs := hw
  refine g_putF (ty := .object "DreamLedger$TagTree") C E hmi hw inW3 tyX3 tyX3_ok nmX3 0 rfl rfl 0 (by decide) kf_X3_10 rfl rfl (by decide +kernel) rfl rfl (Nat.le_of_ble_eq_true rfl) (ws' := [(h0, .inr (3, [.ref o5, .null, .null, .null, .null, .null, .null, .int 0, .int 0])), (o5, .inr (1, [.ref (u9 0), .ref (u9 1), .int 0])), ((u9 0), .inl (cI, 16, .inl (fun _ => 0))), ((u9 1), .inl (cI, 16, .inl (fun _ => 0)))]) rfl dX3_init_12 (fun H locs hw => ?_)
  refine lv_aload_n C.1 C.2.1 dX3_init_15 rfl (lv_at hl 0 rfl) ?_
  refine g_newo (ci := 2) (fs := [.null, .null, .null, .null, .int 0]) C E hw inW2 tyX2 tyX2_ok kl_X3_16 kq_X2 kz_X2 rfl (fun j hj => by rcases (show j = 0 ∨ j = 1 ∨ j = 2 ∨ j = 3 ∨ j = 4 by omega) with rfl | rfl | rfl | rfl | rfl <;> rfl) (Nat.le_of_ble_eq_true rfl) (Nat.le_of_ble_eq_true rfl) dX3_init_16 (fun o16 H locs hw => ?_)
  have hw : gW D [(h0, .inr (3, [.null, .null, .null, .null, .null, .null, .null, .int 0, .int 0]))] [(h0, .inr (3, [.ref o5, .null, .null, .null, .null, .null, .null, .int 0, .int 0])), (o5, .inr (1, [.ref (u9 0), .ref (u9 1), .int 0])), ((u9 0), .inl (cI, 16, .inl (fun _ => 0))), ((u9 1), .inl (cI, 16, .inl (fun _ => 0))), (o16, .inr (2, [.null, .null, .null, .null, .int 0]))] s H locs := hw
  refine lv_dup C.1 C.2.1 dX3_init_19 rfl ?_
  refine g_init9 (w1 := wi_X2 cI o16) (wr := [(h0, .inr (3, [.ref o5, .null, .null, .null, .null, .null, .null, .int 0, .int 0])), (o5, .inr (1, [.ref (u9 0), .ref (u9 1), .int 0])), ((u9 0), .inl (cI, 16, .inl (fun _ => 0))), ((u9 1), .inl (cI, 16, .inl (fun _ => 0)))]) (rest := [.ref o16, .ref h0]) hw (g_runIN (rm := ({ frames := 1, cells := 4, slots := 80, locals := 20 } : Room)) (wc := [(o16, .inr (2, [.null, .null, .null, .null, .int 0]))]) C E hw [4] rfl (by decide) Fi_X2 rfl ki_yX2_init (cti_X2 l o16 _) kmN_X3_18 hl.1 (Nat.le_of_ble_eq_true rfl) ⟨(Nat.le_of_ble_eq_true rfl), (Nat.le_of_ble_eq_true rfl)⟩ ⟨(Nat.le_of_ble_eq_true rfl), (Nat.le_of_ble_eq_true rfl)⟩ dX3_init_20) [4] [0, 1, 2, 3] rfl rfl (by decide) (by decide) (fun u20 H locs hw => ?_)
  have hw : gW D [(h0, .inr (3, [.null, .null, .null, .null, .null, .null, .null, .int 0, .int 0]))] [(h0, .inr (3, [.ref o5, .null, .null, .null, .null, .null, .null, .int 0, .int 0])), (o5, .inr (1, [.ref (u9 0), .ref (u9 1), .int 0])), ((u9 0), .inl (cI, 16, .inl (fun _ => 0))), ((u9 1), .inl (cI, 16, .inl (fun _ => 0))), (o16, .inr (2, [.ref (u20 0), .ref (u20 1), .ref (u20 2), .ref (u20 3), .int 0])), ((u20 0), .inl (cI, 20, .inl (fun _ => 0))), ((u20 1), .inl (cI, 20, .inl (fun _ => 0))), ((u20 2), .inl (cI, 20, .inl (fun _ => 0))), ((u20 3), .inl (cI, 20, .inl (fun _ => 0)))] s H locs := hw
  refine g_putF (ty := .object "DreamLedger$TermList") C E hmi hw inW3 tyX3 tyX3_ok nmX3 0 rfl rfl 1 (by decide) kf_X3_19 rfl rfl (by decide +kernel) rfl rfl (Nat.le_of_ble_eq_true rfl) (ws' := [(h0, .inr (3, [.ref o5, .ref o16, .null, .null, .null, .null, .null, .int 0, .int 0])), (o5, .inr (1, [.ref (u9 0), .ref (u9 1), .int 0])), ((u9 0), .inl (cI, 16, .inl (fun _ => 0))), ((u9 1), .inl (cI, 16, .inl (fun _ => 0))), (o16, .inr (2, [.ref (u20 0), .ref (u20 1), .ref (u20 2), .ref (u20 3), .int 0])), ((u20 0), .inl (cI, 20, .inl (fun _ => 0))), ((u20 1), .inl (cI, 20, .inl (fun _ => 0))), ((u20 2), .inl (cI, 20, .inl (fun _ => 0))), ((u20 3), .inl (cI, 20, .inl (fun _ => 0)))]) rfl dX3_init_23 (fun H locs hw => ?_)
  refine lv_aload_n C.1 C.2.1 dX3_init_26 rfl (lv_at hl 0 rfl) ?_
  refine g_newo (ci := 0) (fs := [.null, .null]) C E hw inW0 tyX0 tyX0_ok kl_X3_23 kq_X0 kz_X0 rfl (fun j hj => by rcases (show j = 0 ∨ j = 1 by omega) with rfl | rfl <;> rfl) (Nat.le_of_ble_eq_true rfl) (Nat.le_of_ble_eq_true rfl) dX3_init_27 (fun o27 H locs hw => ?_)
  have hw : gW D [(h0, .inr (3, [.null, .null, .null, .null, .null, .null, .null, .int 0, .int 0]))] [(h0, .inr (3, [.ref o5, .ref o16, .null, .null, .null, .null, .null, .int 0, .int 0])), (o5, .inr (1, [.ref (u9 0), .ref (u9 1), .int 0])), ((u9 0), .inl (cI, 16, .inl (fun _ => 0))), ((u9 1), .inl (cI, 16, .inl (fun _ => 0))), (o16, .inr (2, [.ref (u20 0), .ref (u20 1), .ref (u20 2), .ref (u20 3), .int 0])), ((u20 0), .inl (cI, 20, .inl (fun _ => 0))), ((u20 1), .inl (cI, 20, .inl (fun _ => 0))), ((u20 2), .inl (cI, 20, .inl (fun _ => 0))), ((u20 3), .inl (cI, 20, .inl (fun _ => 0))), (o27, .inr (0, [.null, .null]))] s H locs := hw
  refine lv_dup C.1 C.2.1 dX3_init_30 rfl ?_
  refine g_init9 (w1 := wi_X0 cI o27) (wr := [(h0, .inr (3, [.ref o5, .ref o16, .null, .null, .null, .null, .null, .int 0, .int 0])), (o5, .inr (1, [.ref (u9 0), .ref (u9 1), .int 0])), ((u9 0), .inl (cI, 16, .inl (fun _ => 0))), ((u9 1), .inl (cI, 16, .inl (fun _ => 0))), (o16, .inr (2, [.ref (u20 0), .ref (u20 1), .ref (u20 2), .ref (u20 3), .int 0])), ((u20 0), .inl (cI, 20, .inl (fun _ => 0))), ((u20 1), .inl (cI, 20, .inl (fun _ => 0))), ((u20 2), .inl (cI, 20, .inl (fun _ => 0))), ((u20 3), .inl (cI, 20, .inl (fun _ => 0)))]) (rest := [.ref o27, .ref h0]) hw (g_runIN (rm := ({ frames := 1, cells := 2, slots := 33, locals := 20 } : Room)) (wc := [(o27, .inr (0, [.null, .null]))]) C E hw [9] rfl (by decide) Fi_X0 rfl ki_yX0_init (cti_X0 l o27 _) kmN_X3_25 hl.1 (Nat.le_of_ble_eq_true rfl) ⟨(Nat.le_of_ble_eq_true rfl), (Nat.le_of_ble_eq_true rfl)⟩ ⟨(Nat.le_of_ble_eq_true rfl), (Nat.le_of_ble_eq_true rfl)⟩ dX3_init_31) [9] [0, 1, 2, 3, 4, 5, 6, 7, 8] rfl rfl (by decide) (by decide) (fun u31 H locs hw => ?_)
  have hw : gW D [(h0, .inr (3, [.null, .null, .null, .null, .null, .null, .null, .int 0, .int 0]))] [(h0, .inr (3, [.ref o5, .ref o16, .null, .null, .null, .null, .null, .int 0, .int 0])), (o5, .inr (1, [.ref (u9 0), .ref (u9 1), .int 0])), ((u9 0), .inl (cI, 16, .inl (fun _ => 0))), ((u9 1), .inl (cI, 16, .inl (fun _ => 0))), (o16, .inr (2, [.ref (u20 0), .ref (u20 1), .ref (u20 2), .ref (u20 3), .int 0])), ((u20 0), .inl (cI, 20, .inl (fun _ => 0))), ((u20 1), .inl (cI, 20, .inl (fun _ => 0))), ((u20 2), .inl (cI, 20, .inl (fun _ => 0))), ((u20 3), .inl (cI, 20, .inl (fun _ => 0))), (o27, .inr (0, [.ref (u31 0), .ref (u31 1)])), ((u31 0), .inl (cI, 16, .inl (fun _ => 0))), ((u31 1), .inl (cI, 17, .inl (fun _ => 0)))] s H locs := hw
  refine g_putF (ty := .object "DreamLedger$CoverSearch") C E hmi hw inW3 tyX3 tyX3_ok nmX3 0 rfl rfl 2 (by decide) kf_X3_26 rfl rfl (by decide +kernel) rfl rfl (Nat.le_of_ble_eq_true rfl) (ws' := [(h0, .inr (3, [.ref o5, .ref o16, .ref o27, .null, .null, .null, .null, .int 0, .int 0])), (o5, .inr (1, [.ref (u9 0), .ref (u9 1), .int 0])), ((u9 0), .inl (cI, 16, .inl (fun _ => 0))), ((u9 1), .inl (cI, 16, .inl (fun _ => 0))), (o16, .inr (2, [.ref (u20 0), .ref (u20 1), .ref (u20 2), .ref (u20 3), .int 0])), ((u20 0), .inl (cI, 20, .inl (fun _ => 0))), ((u20 1), .inl (cI, 20, .inl (fun _ => 0))), ((u20 2), .inl (cI, 20, .inl (fun _ => 0))), ((u20 3), .inl (cI, 20, .inl (fun _ => 0))), (o27, .inr (0, [.ref (u31 0), .ref (u31 1)])), ((u31 0), .inl (cI, 16, .inl (fun _ => 0))), ((u31 1), .inl (cI, 17, .inl (fun _ => 0)))]) rfl dX3_init_34 (fun H locs hw => ?_)
  refine lv_aload_n C.1 C.2.1 dX3_init_37 rfl (lv_at hl 0 rfl) ?_
  refine lv_bipush (v := 24) C.1 C.2.1 dX3_init_38 (by decide) ?_
  refine g_newa C E hw 24 (by decide) (by decide) (by decide) (Nat.le_of_ble_eq_true rfl) (Nat.le_of_ble_eq_true rfl) dX3_init_40 (fun a40 H locs hw => ?_)
  have hw : gW D [(h0, .inr (3, [.null, .null, .null, .null, .null, .null, .null, .int 0, .int 0]))] [(h0, .inr (3, [.ref o5, .ref o16, .ref o27, .null, .null, .null, .null, .int 0, .int 0])), (o5, .inr (1, [.ref (u9 0), .ref (u9 1), .int 0])), ((u9 0), .inl (cI, 16, .inl (fun _ => 0))), ((u9 1), .inl (cI, 16, .inl (fun _ => 0))), (o16, .inr (2, [.ref (u20 0), .ref (u20 1), .ref (u20 2), .ref (u20 3), .int 0])), ((u20 0), .inl (cI, 20, .inl (fun _ => 0))), ((u20 1), .inl (cI, 20, .inl (fun _ => 0))), ((u20 2), .inl (cI, 20, .inl (fun _ => 0))), ((u20 3), .inl (cI, 20, .inl (fun _ => 0))), (o27, .inr (0, [.ref (u31 0), .ref (u31 1)])), ((u31 0), .inl (cI, 16, .inl (fun _ => 0))), ((u31 1), .inl (cI, 17, .inl (fun _ => 0))), (a40, .inl (cI, 24, .inl (fun _ => 0)))] s H locs := hw
  refine g_putF (ty := .array .int) C E hmi hw inW3 tyX3 tyX3_ok nmX3 0 rfl rfl 3 (by decide) kf_X3_30 rfl rfl (by decide +kernel) rfl rfl (Nat.le_of_ble_eq_true rfl) (ws' := [(h0, .inr (3, [.ref o5, .ref o16, .ref o27, .ref a40, .null, .null, .null, .int 0, .int 0])), (o5, .inr (1, [.ref (u9 0), .ref (u9 1), .int 0])), ((u9 0), .inl (cI, 16, .inl (fun _ => 0))), ((u9 1), .inl (cI, 16, .inl (fun _ => 0))), (o16, .inr (2, [.ref (u20 0), .ref (u20 1), .ref (u20 2), .ref (u20 3), .int 0])), ((u20 0), .inl (cI, 20, .inl (fun _ => 0))), ((u20 1), .inl (cI, 20, .inl (fun _ => 0))), ((u20 2), .inl (cI, 20, .inl (fun _ => 0))), ((u20 3), .inl (cI, 20, .inl (fun _ => 0))), (o27, .inr (0, [.ref (u31 0), .ref (u31 1)])), ((u31 0), .inl (cI, 16, .inl (fun _ => 0))), ((u31 1), .inl (cI, 17, .inl (fun _ => 0))), (a40, .inl (cI, 24, .inl (fun _ => 0)))]) rfl dX3_init_42 (fun H locs hw => ?_)
  refine lv_aload_n C.1 C.2.1 dX3_init_45 rfl (lv_at hl 0 rfl) ?_
  refine lv_bipush (v := 24) C.1 C.2.1 dX3_init_46 (by decide) ?_
  refine g_newa C E hw 24 (by decide) (by decide) (by decide) (Nat.le_of_ble_eq_true rfl) (Nat.le_of_ble_eq_true rfl) dX3_init_48 (fun a48 H locs hw => ?_)
  have hw : gW D [(h0, .inr (3, [.null, .null, .null, .null, .null, .null, .null, .int 0, .int 0]))] [(h0, .inr (3, [.ref o5, .ref o16, .ref o27, .ref a40, .null, .null, .null, .int 0, .int 0])), (o5, .inr (1, [.ref (u9 0), .ref (u9 1), .int 0])), ((u9 0), .inl (cI, 16, .inl (fun _ => 0))), ((u9 1), .inl (cI, 16, .inl (fun _ => 0))), (o16, .inr (2, [.ref (u20 0), .ref (u20 1), .ref (u20 2), .ref (u20 3), .int 0])), ((u20 0), .inl (cI, 20, .inl (fun _ => 0))), ((u20 1), .inl (cI, 20, .inl (fun _ => 0))), ((u20 2), .inl (cI, 20, .inl (fun _ => 0))), ((u20 3), .inl (cI, 20, .inl (fun _ => 0))), (o27, .inr (0, [.ref (u31 0), .ref (u31 1)])), ((u31 0), .inl (cI, 16, .inl (fun _ => 0))), ((u31 1), .inl (cI, 17, .inl (fun _ => 0))), (a40, .inl (cI, 24, .inl (fun _ => 0))), (a48, .inl (cI, 24, .inl (fun _ => 0)))] s H locs := hw
  refine g_putF (ty := .array .int) C E hmi hw inW3 tyX3 tyX3_ok nmX3 0 rfl rfl 4 (by decide) kf_X3_34 rfl rfl (by decide +kernel) rfl rfl (Nat.le_of_ble_eq_true rfl) (ws' := [(h0, .inr (3, [.ref o5, .ref o16, .ref o27, .ref a40, .ref a48, .null, .null, .int 0, .int 0])), (o5, .inr (1, [.ref (u9 0), .ref (u9 1), .int 0])), ((u9 0), .inl (cI, 16, .inl (fun _ => 0))), ((u9 1), .inl (cI, 16, .inl (fun _ => 0))), (o16, .inr (2, [.ref (u20 0), .ref (u20 1), .ref (u20 2), .ref (u20 3), .int 0])), ((u20 0), .inl (cI, 20, .inl (fun _ => 0))), ((u20 1), .inl (cI, 20, .inl (fun _ => 0))), ((u20 2), .inl (cI, 20, .inl (fun _ => 0))), ((u20 3), .inl (cI, 20, .inl (fun _ => 0))), (o27, .inr (0, [.ref (u31 0), .ref (u31 1)])), ((u31 0), .inl (cI, 16, .inl (fun _ => 0))), ((u31 1), .inl (cI, 17, .inl (fun _ => 0))), (a40, .inl (cI, 24, .inl (fun _ => 0))), (a48, .inl (cI, 24, .inl (fun _ => 0)))]) rfl dX3_init_50 (fun H locs hw => ?_)
  refine lv_aload_n C.1 C.2.1 dX3_init_53 rfl (lv_at hl 0 rfl) ?_
  refine lv_bipush (v := 24) C.1 C.2.1 dX3_init_54 (by decide) ?_
  refine g_newa C E hw 24 (by decide) (by decide) (by decide) (Nat.le_of_ble_eq_true rfl) (Nat.le_of_ble_eq_true rfl) dX3_init_56 (fun a56 H locs hw => ?_)
  have hw : gW D [(h0, .inr (3, [.null, .null, .null, .null, .null, .null, .null, .int 0, .int 0]))] [(h0, .inr (3, [.ref o5, .ref o16, .ref o27, .ref a40, .ref a48, .null, .null, .int 0, .int 0])), (o5, .inr (1, [.ref (u9 0), .ref (u9 1), .int 0])), ((u9 0), .inl (cI, 16, .inl (fun _ => 0))), ((u9 1), .inl (cI, 16, .inl (fun _ => 0))), (o16, .inr (2, [.ref (u20 0), .ref (u20 1), .ref (u20 2), .ref (u20 3), .int 0])), ((u20 0), .inl (cI, 20, .inl (fun _ => 0))), ((u20 1), .inl (cI, 20, .inl (fun _ => 0))), ((u20 2), .inl (cI, 20, .inl (fun _ => 0))), ((u20 3), .inl (cI, 20, .inl (fun _ => 0))), (o27, .inr (0, [.ref (u31 0), .ref (u31 1)])), ((u31 0), .inl (cI, 16, .inl (fun _ => 0))), ((u31 1), .inl (cI, 17, .inl (fun _ => 0))), (a40, .inl (cI, 24, .inl (fun _ => 0))), (a48, .inl (cI, 24, .inl (fun _ => 0))), (a56, .inl (cI, 24, .inl (fun _ => 0)))] s H locs := hw
  refine g_putF (ty := .array .int) C E hmi hw inW3 tyX3 tyX3_ok nmX3 0 rfl rfl 5 (by decide) kf_X3_37 rfl rfl (by decide +kernel) rfl rfl (Nat.le_of_ble_eq_true rfl) (ws' := [(h0, .inr (3, [.ref o5, .ref o16, .ref o27, .ref a40, .ref a48, .ref a56, .null, .int 0, .int 0])), (o5, .inr (1, [.ref (u9 0), .ref (u9 1), .int 0])), ((u9 0), .inl (cI, 16, .inl (fun _ => 0))), ((u9 1), .inl (cI, 16, .inl (fun _ => 0))), (o16, .inr (2, [.ref (u20 0), .ref (u20 1), .ref (u20 2), .ref (u20 3), .int 0])), ((u20 0), .inl (cI, 20, .inl (fun _ => 0))), ((u20 1), .inl (cI, 20, .inl (fun _ => 0))), ((u20 2), .inl (cI, 20, .inl (fun _ => 0))), ((u20 3), .inl (cI, 20, .inl (fun _ => 0))), (o27, .inr (0, [.ref (u31 0), .ref (u31 1)])), ((u31 0), .inl (cI, 16, .inl (fun _ => 0))), ((u31 1), .inl (cI, 17, .inl (fun _ => 0))), (a40, .inl (cI, 24, .inl (fun _ => 0))), (a48, .inl (cI, 24, .inl (fun _ => 0))), (a56, .inl (cI, 24, .inl (fun _ => 0)))]) rfl dX3_init_58 (fun H locs hw => ?_)
  refine lv_aload_n C.1 C.2.1 dX3_init_61 rfl (lv_at hl 0 rfl) ?_
  refine lv_bipush (v := 24) C.1 C.2.1 dX3_init_62 (by decide) ?_
  refine g_newa C E hw 24 (by decide) (by decide) (by decide) (Nat.le_of_ble_eq_true rfl) (Nat.le_of_ble_eq_true rfl) dX3_init_64 (fun a64 H locs hw => ?_)
  have hw : gW D [(h0, .inr (3, [.null, .null, .null, .null, .null, .null, .null, .int 0, .int 0]))] [(h0, .inr (3, [.ref o5, .ref o16, .ref o27, .ref a40, .ref a48, .ref a56, .null, .int 0, .int 0])), (o5, .inr (1, [.ref (u9 0), .ref (u9 1), .int 0])), ((u9 0), .inl (cI, 16, .inl (fun _ => 0))), ((u9 1), .inl (cI, 16, .inl (fun _ => 0))), (o16, .inr (2, [.ref (u20 0), .ref (u20 1), .ref (u20 2), .ref (u20 3), .int 0])), ((u20 0), .inl (cI, 20, .inl (fun _ => 0))), ((u20 1), .inl (cI, 20, .inl (fun _ => 0))), ((u20 2), .inl (cI, 20, .inl (fun _ => 0))), ((u20 3), .inl (cI, 20, .inl (fun _ => 0))), (o27, .inr (0, [.ref (u31 0), .ref (u31 1)])), ((u31 0), .inl (cI, 16, .inl (fun _ => 0))), ((u31 1), .inl (cI, 17, .inl (fun _ => 0))), (a40, .inl (cI, 24, .inl (fun _ => 0))), (a48, .inl (cI, 24, .inl (fun _ => 0))), (a56, .inl (cI, 24, .inl (fun _ => 0))), (a64, .inl (cI, 24, .inl (fun _ => 0)))] s H locs := hw
  refine g_putF (ty := .array .int) C E hmi hw inW3 tyX3 tyX3_ok nmX3 0 rfl rfl 6 (by decide) kf_X3_40 rfl rfl (by decide +kernel) rfl rfl (Nat.le_of_ble_eq_true rfl) (ws' := [(h0, .inr (3, [.ref o5, .ref o16, .ref o27, .ref a40, .ref a48, .ref a56, .ref a64, .int 0, .int 0])), (o5, .inr (1, [.ref (u9 0), .ref (u9 1), .int 0])), ((u9 0), .inl (cI, 16, .inl (fun _ => 0))), ((u9 1), .inl (cI, 16, .inl (fun _ => 0))), (o16, .inr (2, [.ref (u20 0), .ref (u20 1), .ref (u20 2), .ref (u20 3), .int 0])), ((u20 0), .inl (cI, 20, .inl (fun _ => 0))), ((u20 1), .inl (cI, 20, .inl (fun _ => 0))), ((u20 2), .inl (cI, 20, .inl (fun _ => 0))), ((u20 3), .inl (cI, 20, .inl (fun _ => 0))), (o27, .inr (0, [.ref (u31 0), .ref (u31 1)])), ((u31 0), .inl (cI, 16, .inl (fun _ => 0))), ((u31 1), .inl (cI, 17, .inl (fun _ => 0))), (a40, .inl (cI, 24, .inl (fun _ => 0))), (a48, .inl (cI, 24, .inl (fun _ => 0))), (a56, .inl (cI, 24, .inl (fun _ => 0))), (a64, .inl (cI, 24, .inl (fun _ => 0)))]) rfl dX3_init_66 (fun H locs hw => ?_)
  have hw : gW D [(h0, .inr (3, [.null, .null, .null, .null, .null, .null, .null, .int 0, .int 0]))] (wi_X3 cI h0 (fun i => [h0, o5, o16, o27, a40, a48, a56, a64, (u9 0), (u9 1), (u20 0), (u20 1), (u20 2), (u20 3), (u31 0), (u31 1)].getD i 0)) s H locs := ⟨hw.1.sub [0, 1, 4, 9, 12, 13, 14, 15, 2, 3, 5, 6, 7, 8, 10, 11] rfl, hw.2.1.sub [0, 1, 4, 9, 12, 13, 14, 15, 2, 3, 5, 6, 7, 8, 10, 11] (by decide) rfl, hw.2.2⟩
  exact g_nret (w1 := wi_X3 cI h0) C _ hw (Nat.le_of_ble_eq_true rfl) (Nat.le_of_ble_eq_true rfl) dX3_init_69
end
section
/-! new rows over rows -/
theorem pl_map {K : Nat} {f : Nat → Nat} {g : Nat → va_E} {x : va_E} : va_pl ([] ++ (List.range K).map f) (vr_up g ((List.range K).map f) x) = (List.range K).map (fun i => (f i, x)) := by
  rw [← vr_rows (fun a _ h => by cases h)]
  show [] ++ _ = _
  rw [List.nil_append, List.map_map]
  rfl
def mkM (T : St) : Option St := if T 36 0 < 0 ∨ 20 < T 36 0 ∨ T 35 0 < 0 ∨ 24 < T 35 0 then none else some (fun _ _ => 0)
theorem le_clamp {x : Int32} {n : Nat} (hn : n < 2 ^ 31) (h0 : ¬ x < 0) (h : ¬ nI n < x) : x.toNatClampNeg ≤ n := by
  rw [Int32.lt_iff_toInt_lt, nI_toInt hn] at h
  have h1 : ¬ x.toInt < 0 := fun q => h0 (Int32.lt_iff_toInt_lt.mpr q)
  show x.toInt.toNat ≤ n
  omega
theorem mkM_some {T B : St} (h : mkM T = some B) : ¬ T 36 0 < 0 ∧ (T 36 0).toNatClampNeg ≤ 20 ∧ ¬ T 35 0 < 0 ∧ (T 35 0).toNatClampNeg ≤ 24 ∧ B = fun _ _ => 0 := by
  unfold mkM at h
  split at h
  · cases h
  · rename_i h1
    have h2 : ¬ T 36 0 < 0 := fun q => h1 (Or.inl q)
    have h3 : ¬ (20 : Int32) < T 36 0 := fun q => h1 (Or.inr (Or.inl q))
    have h4 : ¬ T 35 0 < 0 := fun q => h1 (Or.inr (Or.inr (Or.inl q)))
    have h5 : ¬ (24 : Int32) < T 35 0 := fun q => h1 (Or.inr (Or.inr (Or.inr q)))
    exact ⟨h2, le_clamp (n := 20) (by decide) h2 h3, h4, le_clamp (n := 24) (by decide) h4 h5, (Option.some.inj h).symm⟩
def ldT (T : St) (j : Nat) (x : Int32) : Option Int32 := if j < (T 36 0).toNatClampNeg then ld T (40 + j) 3 x else none
theorem ldT_some {T : St} {j : Nat} {x v : Int32} (h : ldT T j x = some v) : j < (T 36 0).toNatClampNeg ∧ ld T (40 + j) 3 x = some v := by
  unfold ldT at h
  split at h
  · rename_i h1
    exact ⟨h1, h⟩
  · cases h
def stoM (B : St) (K j N : Nat) (x v : Int32) : Option St := if j < K then sto B j N x (vp_nar .boolean v) else none
theorem stoM_some {B B' : St} {K j N : Nat} {x v : Int32} (h : stoM B K j N x v = some B') : j < K ∧ sto B j N x (vp_nar .boolean v) = some B' := by
  unfold stoM at h
  split at h
  · rename_i h1
    exact ⟨h1, h⟩
  · cases h
theorem mat_0 {k : Nat → ClassId} {a : Nat} {mq : Nat → Nat} {K N : Nat} {B : St} : (mat k a mq K N B)[0]? = some (a, .inl (k 2, K, refs (fun i => if i < K then some (mq i) else none))) := rfl
theorem mat_s {k : Nat → ClassId} {a : Nat} {mq : Nat → Nat} {K N : Nat} {B : St} {j : Nat} (h : j < K) : (mat k a mq K N B)[j + 1]? = some (mq j, .inl (k 1, N, .inl (B j))) := by
  unfold mat
  rw [List.getElem?_cons_succ, List.getElem?_map, List.getElem?_range h]
  rfl
theorem mat_len {k : Nat → ClassId} {a : Nat} {mq : Nat → Nat} {K N : Nat} {B : St} : (mat k a mq K N B).length = K + 1 := by unfold mat; rw [List.length_cons, List.length_map, List.length_range]
theorem mat_set {k : Nat → ClassId} {a : Nat} {mq : Nat → Nat} {K N : Nat} {B : St} {j : Nat} (h : j < K) {x : Nat} {v : Int32} : (mat k a mq K N B).set (j + 1) (mq j, .inl (k 1, N, .inl (upd (B j) x v))) = mat k a mq K N (up B j x v) := by
  refine List.ext_getElem? (fun i => ?_)
  rw [List.getElem?_set]
  by_cases hi : j + 1 = i
  · subst hi
    rw [if_pos rfl, if_pos (by rw [mat_len]; omega), mat_s h, up_same]
  · rw [if_neg hi]
    match i with
    | 0 => rfl
    | i + 1 =>
      by_cases h2 : i < K
      · rw [mat_s h2, mat_s h2, up_oth (by omega)]
      · rw [List.getElem?_eq_none (by rw [mat_len]; omega), List.getElem?_eq_none (by rw [mat_len]; omega)]
section MATR
variable {p : Program} {l : Launch} {e : Env} {R : Room} {s : State} {m : MethodId} {args : Array Value} {below : List Frame} {meth : Method} {c : Code} {H : Heap} {locs : List Loc} {cells slots : Nat} {Q : State → Prop}
variable {cc bytes : ByteArray} {nL maxL : Nat} {own : String} {ret rt : Option FieldType} {D : va_G} {k : Nat → ClassId} {qx r : Nat → Nat} {pc : Nat} {ls : Array Slot} {rest st0 : List Value} {ws0 : va_W} {S T B : St} {ex : va_W}
variable {As : List Value} {rm : Room} {y : MethodName} {n index : Nat} {Qc : Array Value → State → Outcome → State → Prop} {free : Addr → Prop} {host : String} {b : Nat} {tf : Nat → Option Nat} {tq : Nat → Nat} {nt : Nat}
theorem g_newM (C : Ctx p s m args meth c cc nL own ret) (E : gEL D k s) {ws : va_W} (hw : gW D ws0 ws s H locs) (hcl : Cond.classLink own index "[[Z" ∈ XALL) {n v : Int32} (K N : Nat) (hn : ¬ n < 0) (hv : ¬ v < 0) (hK : n.toNatClampNeg = K) (hN : v.toNatClampNeg = N) (hK9 : K ≤ 100) (hN9 : N ≤ 100) (hc : cells + (1 + K) ≤ R.cells) (hs : slots + (K + K * N) ≤ R.slots) (hdg : decode cc pc = .ok (.multianewarray index 2, 4))
    (kk : ∀ (a : Nat) (mq : Nat → Nat) (H : Heap), gW D ws0 (ws ++ mat k a mq K N (fun _ _ => 0)) s H locs → W p l e R s m args below meth c H locs (cells + 1 + K) (slots + K + K * N) Q (F0 m (pc + 4) ls (.ref a :: rest))) : W p l e R s m args below meth c H locs cells slots Q (F0 m pc ls (.int v :: .int n :: rest)) := by
  have hcy : s.vm.findClass (FieldType.array .boolean).toString = some (k 1) := (E.1.2 1 (k 1, .boolean) rfl).2
  have hP0 : va_P D vwCl (ws ++ va_pl [] (fun _ => .inr (0, []))) H := by
    show va_P D vwCl (ws ++ []) H
    rw [List.append_nil]
    exact hw.1
  have hD0 : va_D (va_A ws0 s.heap.size) (ws ++ va_pl [] (fun _ => .inr (0, []))) := by
    show va_D _ (ws ++ [])
    rw [List.append_nil]
    exact hw.2.1
  refine va_mna (ty := .boolean) (z := (N, .inl (fun _ => 0))) C.1 C.2.1 C.2.2.2.1 (C.2.2.2.2.1 _ hcl) E.2.2.1 (C.2.2.2.2.1 _ ka_boolean) hcy E.1 hP0 hD0 hw.2.2 (fun _ h => Or.inr h) hn hv hK hN (by omega) (by show N * 1 ≤ _; omega) (by omega) (by decide) (by decide) hc hs (fun c => ?_) hdg (fun a mq cA H1 _ _ hK4 hP hD hS => ?_)
  · show _ = arrV c N (fun _ => .int 0)
    unfold Jvm.Free.Multi.innerC
    rw [← arrV_new]
    rfl
  · have h1 : s.vm.findClass ("[" ++ (FieldType.array .boolean).toString) = some cA := (hK4.2 4 (cA, .array .boolean) rfl).2
    have h2 : s.vm.findClass ("[" ++ (FieldType.array .boolean).toString) = some (k 2) := (E.1.2 2 (k 2, .array .boolean) rfl).2
    have h3 : cA = k 2 := Option.some.inj (h1.symm.trans h2)
    subst h3
    rw [pl_map, List.append_assoc] at hP hD
    exact kk a mq H1 ⟨hP, hD, hS⟩
theorem va_anewA (C : Ctx p s m args meth c cc nL own ret) (E : gEL D k s) {ws : va_W} (hw : gW D ws0 ws s H locs) (hcl : Cond.classLink own index "[I" ∈ XALL) {n : Int32} (N : Nat) (hn : ¬ n < 0) (hN : n.toNatClampNeg = N) (hb : N * 4 ≤ 536870912) (hc : cells + 1 ≤ R.cells) (hs : slots + N ≤ R.slots) (hdg : decode cc pc = .ok (.anewarray index, 3))
    (kk : ∀ (a : Nat) (H : Heap), gW D ws0 (ws ++ [(a, .inl (k 3, N, refs (fun _ => none)))]) s H locs → W p l e R s m args below meth c H locs (cells + 1) (slots + N) Q (F0 m (pc + 3) ls (.ref a :: rest))) : W p l e R s m args below meth c H locs cells slots Q (F0 m pc ls (.int n :: rest)) := by
  subst hN
  refine W.anewA (t := .int) C.1 C.2.1 C.2.2.2.1 (C.2.2.2.2.1 _ hcl) (va_AOA.use E.2.2.2) rfl hdg rfl hn hb hc hs fun cA kA comp f1 f2 f3 f4 => ?_
  have h2 : s.vm.findClass ("[" ++ (FieldType.array .int).toString) = some (k 3) := (E.1.2 3 (k 3, .array .int) rfl).2
  have h3 : cA = k 3 := Option.some.inj (f1.symm.trans h2)
  subst h3
  generalize hH1 : H.push ({ cls := k 3, slots := Array.replicate n.toNatClampNeg .null, vm := .none } : Cell) = H1
  have z1 : H1.size = H.size + 1 := by rw [← hH1, Array.size_push]
  have e1 : H1[H.size]? = some (arrV (k 3) n.toNatClampNeg (fun _ => .null)) := by rw [← hH1, Array.getElem?_push_size, ← arrV_new]
  have o1 : ∀ q : Nat, q < H.size → H1[q]? = H[q]? := fun q hq => by rw [← hH1, Array.getElem?_push, if_neg (Nat.ne_of_lt hq)]
  have hS1 := hw.2.2
  refine kk H.size H1 ⟨(hw.1.kept (fun k9 x hx => o1 x.1 ((hw.1 k9 x hx).lt))).app (fun k9 x hx => ?_), hw.2.1.push hw.1 rfl (Or.inr hS1.1), ⟨Nat.le_trans hS1.1 (by omega), fun x h1 h2 => (o1 x (Nat.lt_of_lt_of_le h1 hS1.1)).trans (hS1.2.1 x h1 h2), hS1.2.2⟩⟩
  have hz : k9 < 1 := (List.getElem?_eq_some_iff.mp hx).1
  rw [show k9 = 0 by omega] at hx
  cases hx
  show H1[H.size]? = some (vp_cell _ _)
  rw [vp_cell_q]
  exact e1
/-! rows of the walk of 'matches' -/
theorem s_aaT (C : Ctx p s m args meth c cc nL own ret) (E : gEL D k s) (hg : gok tf tq nt (T 36 0)) (hw : gW D ws0 (SW k r tf tq nt T ++ ex) s H locs) {x : Int32} {j : Nat} (h : ix (T 36 0).toNatClampNeg x = some j) (hdg : decode cc pc = .ok (.aaload, 1)) (kk : W p l e R s m args below meth c H locs cells slots Q (F0 m (pc + 1) ls (.ref (tq j) :: rest))) : W p l e R s m args below meth c H locs cells slots Q (F0 m pc ls (.int x :: .ref (r 5) :: rest)) := by
  obtain ⟨h1, h2, h3⟩ := ix_some h
  have h4 := hg.2
  refine va_aldA C.1 C.2.1 E.1 (gW_sub1 hw).1 5 3 (SW_at (by omega)) rfl (n := 20) (fun q => h1 (by rcases q with q | q; exact Or.inl q; exact Or.inr (by omega))) hdg ?_
  rw [h2, hg.1 j (by omega)]
  exact kk
theorem swE_term {T : St} {j : Nat} : swE k r tf tq T (30 + j) = (tq j, .inl (k 0, 3, .inl (T (40 + j)))) := by
  rw [show 30 + j = (24 + j) + 6 by omega, swE_6, if_neg (by omega), Nat.add_sub_cancel_left]
theorem s_ldT (C : Ctx p s m args meth c cc nL own ret) (E : gEL D k s) (hg : gok tf tq nt (T 36 0)) (hw : gW D ws0 (SW k r tf tq nt T ++ ex) s H locs) {x v : Int32} {j : Nat} (h : ldT T j x = some v) (hdg : decode cc pc = .ok (.iaload, 1)) (kk : W p l e R s m args below meth c H locs cells slots Q (F0 m (pc + 1) ls (.int v :: rest))) : W p l e R s m args below meth c H locs cells slots Q (F0 m pc ls (.int x :: .ref (tq j) :: rest)) := by
  obtain ⟨h1, h2⟩ := ldT_some h
  have h4 := hg.2
  exact g_ald C E.E (gW_sub1 hw) (30 + j) (by rw [SW_at (by omega), swE_term]) (ld_some h2) hdg kk
variable {w : va_W} {a : Nat} {mq : Nat → Nat} {K N : Nat}
theorem m_aa (C : Ctx p s m args meth c cc nL own ret) (E : gEL D k s) (hw : gW D ws0 (w ++ mat k a mq K N B) s H locs) {x : Int32} {j : Nat} (h : ix K x = some j) (hdg : decode cc pc = .ok (.aaload, 1)) (kk : W p l e R s m args below meth c H locs cells slots Q (F0 m (pc + 1) ls (.ref (mq j) :: rest))) : W p l e R s m args below meth c H locs cells slots Q (F0 m pc ls (.int x :: .ref a :: rest)) := by
  obtain ⟨h1, h2, h3⟩ := ix_some h
  refine va_aldA C.1 C.2.1 E.1 hw.1 w.length 2 (by rw [List.getElem?_append_right (Nat.le_refl _), Nat.sub_self]; exact mat_0) rfl h1 hdg ?_
  rw [h2, if_pos h3]
  exact kk
theorem mat_in {j : Nat} (h : j < K) : (w ++ mat k a mq K N B)[w.length + (j + 1)]? = some (mq j, .inl (k 1, N, .inl (B j))) := by
  rw [List.getElem?_append_right (Nat.le_add_right _ _), Nat.add_sub_cancel_left, mat_s h]
theorem m_ld (C : Ctx p s m args meth c cc nL own ret) (E : gEL D k s) (hw : gW D ws0 (w ++ mat k a mq K N B) s H locs) {x v : Int32} {j : Nat} (h : ldM B K j N x = some v) (hdg : decode cc pc = .ok (.baload, 1)) (kk : W p l e R s m args below meth c H locs cells slots Q (F0 m (pc + 1) ls (.int v :: rest))) : W p l e R s m args below meth c H locs cells slots Q (F0 m pc ls (.int x :: .ref (mq j) :: rest)) := by
  obtain ⟨h1, h2⟩ := ldM_some h
  obtain ⟨h3, rfl⟩ := ld_some h2
  exact va_zald C.1 C.2.1 E.1 hw.1 (w.length + (j + 1)) 1 (mat_in h1) rfl h3 hdg kk
theorem m_st (C : Ctx p s m args meth c cc nL own ret) (E : gEL D k s) (hw : gW D ws0 (w ++ mat k a mq K N B) s H locs) {x v : Int32} {j : Nat} {B' : St} (h : stoM B K j N x v = some B') (hdg : decode cc pc = .ok (.bastore, 1))
    (kk : ∀ (H : Heap) (locs : List Loc), gW D ws0 (w ++ mat k a mq K N B') s H locs → W p l e R s m args below meth c H locs cells slots Q (F0 m (pc + 1) ls rest)) : W p l e R s m args below meth c H locs cells slots Q (F0 m pc ls (.int v :: .int x :: .ref (mq j) :: rest)) := by
  obtain ⟨h1, h2⟩ := stoM_some h
  obtain ⟨h3, rfl⟩ := sto_some h2
  refine va_zast C.1 C.2.1 E.1 hw.1 hw.2.1 hw.2.2 (w.length + (j + 1)) 1 (mat_in h1) rfl h3 hdg (fun H1 locs1 hP hD hS => kk H1 locs1 ?_)
  rw [List.set_append_right _ _ (Nat.le_add_right _ _), Nat.add_sub_cancel_left, mat_set h1] at hP hD
  exact ⟨hP, hD, hS⟩
/-- hasTag from 'matches' -/
theorem m_si (C : Ctx p s m args meth c cc nL own ret) (E : gEL D k s) (hw : gW D ws0 (SW k r tf tq nt T ++ ex) s H locs) (F : FctV y bytes maxL rt n) (hy : y.cls = RX4) {r1 : Int32} (hM : ∀ sz, Met l y (Cond.code y bytes maxL rt :: XALL) rm (va_Pc (.ref (r 0) :: As) (gPreL D k (SN k r tf tq nt T) sz)) (gQi D (SN k r tf tq nt) T (fun v u => v = r1 ∧ u = T) sz) rm.cells rm.slots (va_A (SN k r tf tq nt T) sz)) (hk : Cond.methodLink own index y ∈ XALL)
    (hn : As.length = n) (hsize : ls.size = nL) (hst : st0 = As.reverse ++ .ref (r 0) :: rest) (hr8 : (rest.map fun v => v.category).sum ≤ 8) (hR : rm.frames + 1 ≤ R.frames ∧ 8 + (maxL + 11) + rm.locals ≤ R.locals) (hf : cells + rm.cells ≤ R.cells ∧ slots + rm.slots ≤ R.slots) (hdg : decode cc pc = .ok (.invokevirtual index, 3))
    (kk : ∀ (H : Heap) (locs : List Loc), gW D ws0 (SW k r tf tq nt T ++ ex) s H locs → W p l e R s m args below meth c H locs (cells + rm.cells) (slots + rm.slots) Q (F0 m (pc + 3) ls (.int r1 :: rest))) : W p l e R s m args below meth c H locs cells slots Q (F0 m pc ls st0) := by
  have hw3 : gW D ws0 (SN k r tf tq nt T) s H locs := by rw [SN_e]; exact gW_sub1 hw
  have hr := g_runVL (e := e) (below := below) (T := TX4) (N := 9) C E hw3 F (hM _) hk 0 SN_0 (by rw [hy]; rfl) hn hsize hst hr8 hR hf hdg
  have hA := hw3.A
  refine va_calli hr hw.2.2 (fun q _ h => hA q h) hA (fun v u t H1 locs1 ht _ hp hB _ hkq hS => ?_)
  obtain ⟨rfl, rfl⟩ := hp
  rw [ht, SN_e] at hB
  rw [SN_e] at hkq
  exact kk H1 locs1 (gW_part hw (SW_adr _ _) hB hkq hS)
theorem m_aret (C : Ctx p s m args meth c cc nL own (some (.array (.array .boolean)))) (hw : gW D (SN k r tf tq nt T) (SW k r tf tq nt T ++ mat k a mq (T 36 0).toNatClampNeg (T 35 0).toNatClampNeg B) s H locs) {mc ms : Nat} (hc : cells ≤ mc) (hs : slots ≤ ms) {B1 : St} (hp : B = B1) (hdg : decode cc pc = .ok (.areturn, 1)) :
    W p l e R s m args below meth c H locs cells slots (MQ below (gQM D k r tf tq nt T B1 s.heap.size) args s mc ms (va_A (SN k r tf tq nt T) s.heap.size)) (F0 m pc ls [.ref a]) := by
  subst hp
  exact W.widen hc hs (W.aret C.1 C.2.1 C.2.2.2.2.2.1 (Or.inr ⟨_, rfl⟩) (Or.inr ⟨a, rfl⟩) (fun t ht hW => ⟨⟨mq, a, rfl, trivial, by rw [ht]; exact hw.1, hw.2.1⟩, hw.F ht⟩) hw.2.2.2.2 hdg C.2.2.2.2.2.2)
/-- a callee's part of the world comes back greater -/
theorem gW_join {w w' ex : va_W} {H1 : Heap} {locs1 : List Loc} (hw : gW D ws0 (w ++ ex) s H locs) (hB : va_P D vwCl w' H1) (hD : va_D (va_A w H.size) w') (hk : ∀ q : Nat, q < H.size → ¬ va_A w H.size q → H1[q]? = H[q]?) (hS : va_S (va_A ws0 s.heap.size) s.heap H1 locs1) : gW D ws0 (w' ++ ex) s H1 locs1 := by
  have hout : ∀ (i : Nat) (x : Nat × va_E), ex[i]? = some x → (w ++ ex)[w.length + i]? = some x ∧ x.1 < H.size ∧ ¬ va_A w H.size x.1 := by
    intro i x hx
    have hk1 : (w ++ ex)[w.length + i]? = some x := by rw [List.getElem?_append_right (Nat.le_add_right _ _), Nat.add_sub_cancel_left]; exact hx
    refine ⟨hk1, (hw.1 _ _ hk1).lt, fun hA => ?_⟩
    rcases hA with ⟨j, e9, hi⟩ | hA
    · have hl := (List.getElem?_eq_some_iff.mp hi).1
      have hi2 : (w ++ ex)[j]? = some (x.1, e9) := by rw [List.getElem?_append_left hl]; exact hi
      have := hw.2.1.1 _ _ _ _ hi2 hk1 rfl
      omega
    · exact absurd hA (Nat.not_le.mpr (hw.1 _ _ hk1).lt)
  have hA := (gW_sub1 hw).A
  refine ⟨hB.app (fun i x hx => ?_), va_D.app (hD.weaken (fun _ _ _ h => hA _ h)) ⟨fun i j x y hi hj hxy => ?_, fun i x hx => hw.2.1.2 _ _ (hout i x hx).1⟩ (fun i j x y hi hj hxy => ?_), hS⟩
  · obtain ⟨h1, h2, h3⟩ := hout i x hx
    exact (hw.1 _ _ h1).kept (hk _ h2 h3)
  · have := hw.2.1.1 _ _ _ _ (hout i x hi).1 (hout j y hj).1 hxy
    omega
  · exact (hout j y hj).2.2 (by rw [← hxy]; exact hD.2 i x hi)
/-- 'matches' from isSame -/
theorem l_mat (C : Ctx p s m args meth c cc nL own ret) (E : gEL D k s) (hw : gS D ws0 k qx r S T [] s H locs) (F : FctV y bytes maxL rt n) (hy : y.cls = RX4) {B1 : St} (hM : ∀ tf tq nt sz, gok tf tq nt (T 36 0) → Met l y (Cond.code y bytes maxL rt :: XALL) rm (va_Pc (.ref (r 0) :: As) (gPreL D k (SN k r tf tq nt T) sz)) (gQM D k r tf tq nt T B1 sz) rm.cells rm.slots (va_A (SN k r tf tq nt T) sz)) (hk : Cond.methodLink own index y ∈ XALL)
    (hn : As.length = n) (hsize : ls.size = nL) (hst : st0 = As.reverse ++ .ref (r 0) :: rest) (hr8 : (rest.map fun v => v.category).sum ≤ 8) (hR : rm.frames + 1 ≤ R.frames ∧ 8 + (maxL + 11) + rm.locals ≤ R.locals) (hf : cells + rm.cells ≤ R.cells ∧ slots + rm.slots ≤ R.slots) (hdg : decode cc pc = .ok (.invokevirtual index, 3))
    (kk : ∀ (a : Nat) (mq : Nat → Nat) (H : Heap) (locs : List Loc), gS D ws0 k qx r S T (mat k a mq (T 36 0).toNatClampNeg (T 35 0).toNatClampNeg B1) s H locs → W p l e R s m args below meth c H locs (cells + rm.cells) (slots + rm.slots) Q (F0 m (pc + 3) ls (.ref a :: rest))) : W p l e R s m args below meth c H locs cells slots Q (F0 m pc ls st0) := by
  obtain ⟨tf, tq, nt, hg, hw⟩ := hw
  have hw2 := LW_sw hw
  have hw3 : gW D ws0 (SN k r tf tq nt T) s H locs := by rw [SN_e]; exact gW_sub1 hw2
  have hr := g_runVL (e := e) (below := below) (T := TX4) (N := 9) C E hw3 F (hM tf tq nt _ hg) hk 0 SN_0 (by rw [hy]; rfl) hn hsize hst hr8 hR hf hdg
  have hA := hw3.A
  refine va_callr hr hw.2.2 (fun q _ h => hA q h) hA (fun mq a t H1 locs1 ht _ _ hB _ hkq hS => ?_)
  obtain ⟨hP1, hD1⟩ := hB
  rw [ht] at hP1
  rw [SN_e] at hD1 hkq
  refine kk a mq H1 locs1 ⟨tf, tq, nt, hg, LW_ofsw ?_⟩
  have hj := gW_join hw2 hP1 hD1 hkq hS
  rw [List.append_assoc] at hj
  exact hj
theorem l_maa (C : Ctx p s m args meth c cc nL own ret) (E : gEL D k s) (hw : gS D ws0 k qx r S T (mat k a mq K N B) s H locs) {x : Int32} {j : Nat} (h : ix K x = some j) (hdg : decode cc pc = .ok (.aaload, 1)) (kk : W p l e R s m args below meth c H locs cells slots Q (F0 m (pc + 1) ls (.ref (mq j) :: rest))) : W p l e R s m args below meth c H locs cells slots Q (F0 m pc ls (.int x :: .ref a :: rest)) := by
  obtain ⟨tf, tq, nt, hg, hw⟩ := hw
  unfold LW at hw
  rw [← List.append_assoc] at hw
  exact m_aa C E hw h hdg kk
theorem l_mld (C : Ctx p s m args meth c cc nL own ret) (E : gEL D k s) (hw : gS D ws0 k qx r S T (mat k a mq K N B) s H locs) {x v : Int32} {j : Nat} (h : ldM B K j N x = some v) (hdg : decode cc pc = .ok (.baload, 1)) (kk : W p l e R s m args below meth c H locs cells slots Q (F0 m (pc + 1) ls (.int v :: rest))) : W p l e R s m args below meth c H locs cells slots Q (F0 m pc ls (.int x :: .ref (mq j) :: rest)) := by
  obtain ⟨tf, tq, nt, hg, hw⟩ := hw
  unfold LW at hw
  rw [← List.append_assoc] at hw
  exact m_ld C E hw h hdg kk
end MATR
end
section
/-! rows: a row of ints beside the world; a new term -/
def ldA (A : Nat → Int32) (n : Nat) (x : Int32) : Option Int32 := if x < 0 ∨ n ≤ x.toNatClampNeg then none else some (A x.toNatClampNeg)
theorem ldA_some {A : Nat → Int32} {n : Nat} {x v : Int32} (h : ldA A n x = some v) : vp_in x n ∧ A x.toNatClampNeg = v := by
  unfold ldA at h
  split at h
  · cases h
  · rename_i h1
    exact ⟨h1, Option.some.inj h⟩
def stA (A : Nat → Int32) (n : Nat) (x v : Int32) : Option (Nat → Int32) := if x < 0 ∨ n ≤ x.toNatClampNeg then none else some (upd A x.toNatClampNeg v)
theorem stA_some {A A' : Nat → Int32} {n : Nat} {x v : Int32} (h : stA A n x v = some A') : vp_in x n ∧ upd A x.toNatClampNeg v = A' := by
  unfold stA at h
  split at h
  · cases h
  · rename_i h1
    exact ⟨h1, Option.some.inj h⟩
theorem mkM_c {K : Nat} (h : K ≤ 20) : 0 + (1 + K) ≤ 21 := by omega
theorem mkM_c1 {K : Nat} (h : K ≤ 20) : 0 + 1 + K ≤ 21 := by omega
theorem mkM_s {K N : Nat} (h : K ≤ 20) (h2 : N ≤ 24) : 0 + (K + K * N) ≤ 520 := by
  have := Nat.mul_le_mul h h2
  omega
theorem mkM_s1 {K N : Nat} (h : K ≤ 20) (h2 : N ≤ 24) : 0 + K + K * N ≤ 520 := by
  have := Nat.mul_le_mul h h2
  omega
def nrow (a b c : Int32) : Nat → Int32 := upd (upd (upd (fun _ => 0) 0 a) 1 b) 2 c
def ntermS (T : St) (n : Int32) (j : Nat) (a b c : Int32) : St := fun q => if q = 40 + j then nrow a b c else up T 36 0 (n + 1) q
def nterm (T : St) (n a b c : Int32) : Option St := Option.bind (ix 20 n) fun j => if T 36 0 = n then some (ntermS T n j a b c) else none
theorem nterm_some {T T' : St} {n a b c : Int32} (h : nterm T n a b c = some T') : ∃ j, ix 20 n = some j ∧ T 36 0 = n ∧ T' = ntermS T n j a b c := by
  unfold nterm at h
  obtain ⟨j, hj, h⟩ := bnd h
  by_cases h1 : T 36 0 = n
  · rw [if_pos h1] at h
    exact ⟨j, hj, h1, (Option.some.inj h).symm⟩
  · rw [if_neg h1] at h
    cases h
theorem SW_set5 {k : Nat → ClassId} {r : Nat → Nat} {tf tf' : Nat → Option Nat} {tq : Nat → Nat} {nt : Nat} {T : St} : (SW k r tf tq nt T).set 5 (r 5, .inl (k 3, 20, refs tf')) = SW k r tf' tq nt T := by
  refine List.ext_getElem? (fun i => ?_)
  rw [List.getElem?_set]
  by_cases hip : 5 = i
  · subst hip
    rw [if_pos rfl, SW_at (by omega), if_pos (by rw [SW_len]; omega)]
    rfl
  · rw [if_neg hip]
    by_cases hi : i < 30 + nt
    · rw [SW_at hi, SW_at hi]
      congr 1
      match i with
      | 0 | 1 | 2 | 3 | 4 => rfl
      | 5 => exact absurd rfl hip
      | i + 6 => rw [swE_6, swE_6]
    · have n1 : ∀ z, (SW k r z tq nt T)[i]? = none := fun z => List.getElem?_eq_none (by rw [SW_len]; omega)
      rw [n1, n1]
theorem clamp_s {n : Int32} {j : Nat} (h : ix 20 n = some j) : (n + 1).toNatClampNeg = j + 1 ∧ n = nI j := by
  obtain ⟨h1, h2, h3⟩ := ix_some h
  have h4 : ¬ n < 0 := fun q => h1 (Or.inl q)
  have h5 : n = nI j := by
    obtain ⟨i, hi, rfl⟩ := nI_of h4
    rw [nI_clamp (by omega)] at h2
    rw [h2]
  refine ⟨?_, h5⟩
  rw [h5, nI_1, nI_clamp (by omega)]
section NTERM
variable {p : Program} {l : Launch} {e : Env} {R : Room} {s : State} {m : MethodId} {args : Array Value} {below : List Frame} {meth : Method} {c : Code} {H : Heap} {locs : List Loc} {cells slots : Nat} {Q : State → Prop}
variable {cc : ByteArray} {nL : Nat} {own : String} {ret : Option FieldType} {D : va_G} {k : Nat → ClassId} {qx r : Nat → Nat} {pc : Nat} {ls : Array Slot} {rest : List Value} {ws0 : va_W} {S T : St} {ex : va_W}
theorem gW_pick {w w' : va_W} (hw : gW D ws0 w s H locs) (f : Nat → Nat) (hf : ∀ (i : Nat) (x : Nat × va_E), w'[i]? = some x → w[f i]? = some x) (hinj : ∀ (i j : Nat) (x y : Nat × va_E), w'[i]? = some x → w'[j]? = some y → f i = f j → i = j) : gW D ws0 w' s H locs :=
  ⟨fun i x hx => hw.1 (f i) x (hf i x hx), ⟨fun i j x y hi hj hxy => hinj i j x y hi hj (hw.2.1.1 _ _ _ _ (hf i x hi) (hf j y hj) hxy), fun i x hx => hw.2.1.2 _ _ (hf i x hx)⟩, hw.2.2⟩
theorem l_aast (C : Ctx p s m args meth c cc nL own ret) (E : gEL D k s) {tf : Nat → Option Nat} {tq : Nat → Nat} {nt qa j : Nat} {A : Nat → Int32} (hw : gW D ws0 (LW k qx r tf tq nt S T [(qa, .inl (k 0, 3, .inl A))]) s H locs) {n : Int32} (hj : ix 20 n = some j) (hdg : decode cc pc = .ok (.aastore, 1))
    (kk : ∀ (H : Heap) (locs : List Loc), gW D ws0 (LW k qx r (va_up tf j (some qa)) tq nt S T [(qa, .inl (k 0, 3, .inl A))]) s H locs → W p l e R s m args below meth c H locs cells slots Q (F0 m (pc + 1) ls rest)) : W p l e R s m args below meth c H locs cells slots Q (F0 m pc ls (.ref qa :: .int n :: .ref (r 5) :: rest)) := by
  obtain ⟨h1, h2, h3⟩ := ix_some hj
  obtain ⟨comp, cB, kB, f1, -, f3, f4, f5⟩ := arrayOverA_spec (va_AOA.use (A := args) E.2.2.2)
  have g3 : s.vm.findClass ("[" ++ (FieldType.array .int).toString) = some (k 3) := (E.1.2 3 (k 3, .array .int) rfl).2
  have g0 : s.vm.findClass ("[" ++ (FieldType.int).toString) = some (k 0) := (E.1.2 0 (k 0, .int) rfl).2
  have e3 : cB = k 3 := Option.some.inj (f5.symm.trans g3)
  have e0 : comp = k 0 := Option.some.inj (f1.symm.trans g0)
  subst e3
  subst e0
  obtain ⟨kC, hkC, -⟩ := Vm.findClass_spec g0
  have h5 : (LW k qx r tf tq nt S T [(qa, .inl (k 0, 3, .inl A))])[21]? = some (r 5, .inl (k 3, 20, refs tf)) := LW_at (i := 5) (by omega)
  have hlt : n.toNatClampNeg < 20 := by omega
  have h0 : ¬ n < 0 := fun q => h1 (Or.inl q)
  refine W.aast C.1 C.2.1 (hw.1 21 _ h5) (fun q h => by cases h) (fun h => by cases h) f3 f4 rfl hkC ⟨h0, by show _ < (arrV _ _ _).slots.size; rw [arrV_size]; exact hlt⟩ (hw.1 (46 + nt) _ LW_last) (fun q h => by cases h) hkC (va_asg _ _) rfl rfl hdg fun H1 e z oq => ?_
  have hset : (LW k qx r tf tq nt S T [(qa, .inl (k 0, 3, .inl A))]).set 21 (r 5, .inl (k 3, 20, refs (va_up tf j (some qa)))) = LW k qx r (va_up tf j (some qa)) tq nt S T [(qa, .inl (k 0, 3, .inl A))] := by
    unfold LW
    have hx : (xw (k 0) qx S).length = 16 := rfl
    rw [List.set_append_right _ _ (by rw [hx]; omega), hx, List.set_append_left _ _ (by rw [SW_len]; omega), SW_set5]
  refine kk H1 _ ?_
  rw [← hset]
  refine ⟨hw.1.set hw.2.1 h5 ?_ oq, hw.2.1.set h5, hw.2.2.put z oq (hw.2.1.2 21 _ h5)⟩
  show H1[r 5]? = some (vp_cell _ _)
  rw [e]
  rw [vp_cell_q, vp_cell_q, arrV_store]
  congr 2
  funext q
  by_cases hq : q = n.toNatClampNeg
  · subst hq
    rw [← h2]
    simp [updV, va_up, va_rf]
  · simp [updV, va_up, hq, ← h2]
theorem LW_term {tf : Nat → Option Nat} {tq : Nat → Nat} {nt qa j : Nat} {n a b d : Int32} (hj : j ≤ nt) (hw : gW D ws0 (LW k qx r tf tq nt S (up T 36 0 (n + 1)) [(qa, .inl (k 0, 3, .inl (nrow a b d)))]) s H locs) : gW D ws0 (LW k qx r tf (fun i => if i = j then qa else tq i) (j + 1) S (ntermS T n j a b d) []) s H locs := by
  have hx : (xw (k 0) qx S).length = 16 := rfl
  have key : ∀ (i : Nat) (x : Nat × va_E), (LW k qx r tf (fun i => if i = j then qa else tq i) (j + 1) S (ntermS T n j a b d) [])[i]? = some x → (i < 46 + j ∧ (LW k qx r tf tq nt S (up T 36 0 (n + 1)) [(qa, .inl (k 0, 3, .inl (nrow a b d)))])[i]? = some x) ∨ (i = 46 + j ∧ x = (qa, .inl (k 0, 3, .inl (nrow a b d)))) := by
    intro i x hi
    by_cases h1 : i < 16
    · left
      refine ⟨by omega, ?_⟩
      unfold LW at hi ⊢
      rw [List.getElem?_append_left (by rw [hx]; exact h1)] at hi ⊢
      exact hi
    · obtain ⟨i, rfl⟩ : ∃ z, i = 16 + z := ⟨i - 16, by omega⟩
      by_cases h2 : i < 30 + (j + 1)
      · rw [LW_at h2] at hi
        by_cases h3 : i < 30 + j
        · left
          refine ⟨by omega, ?_⟩
          rw [LW_at (by omega), ← hi]
          congr 1
          have hT : ∀ q, q ≠ 40 + j → ntermS T n j a b d q = up T 36 0 (n + 1) q := fun q hq => by unfold ntermS; rw [if_neg hq]
          match i with
          | 0 =>
            show (r 0, Sum.inr (4, sfs r (up T 36 0 (n + 1)))) = (r 0, Sum.inr (4, sfs r (ntermS T n j a b d)))
            unfold sfs
            rw [hT 34 (by omega), hT 35 (by omega), hT 36 (by omega), hT 37 (by omega)]
          | 1 =>
            show (r 1, Sum.inl (k 0, 16, Sum.inl (up T 36 0 (n + 1) 1))) = (r 1, Sum.inl (k 0, 16, Sum.inl (ntermS T n j a b d 1)))
            rw [hT 1 (by omega)]
          | 2 => rfl
          | 3 =>
            show (r 3, Sum.inl (k 0, 24, Sum.inl (up T 36 0 (n + 1) 3))) = (r 3, Sum.inl (k 0, 24, Sum.inl (ntermS T n j a b d 3)))
            rw [hT 3 (by omega)]
          | 4 =>
            show (r 4, Sum.inl (k 0, 24, Sum.inl (up T 36 0 (n + 1) 4))) = (r 4, Sum.inl (k 0, 24, Sum.inl (ntermS T n j a b d 4)))
            rw [hT 4 (by omega)]
          | 5 => rfl
          | i + 6 =>
            rw [swE_6, swE_6]
            by_cases h9 : i < 24
            · rw [if_pos h9, if_pos h9, hT (10 + i) (by omega)]
            · rw [if_neg h9, if_neg h9, hT (40 + (i - 24)) (by omega), if_neg (by omega)]
        · right
          have h4 : i = 30 + j := by omega
          subst h4
          refine ⟨by omega, ?_⟩
          have hi := Option.some.inj hi
          rw [← hi, swE_term]
          unfold ntermS
          rw [if_pos rfl, if_pos rfl]
      · exfalso
        unfold LW at hi
        rw [List.append_nil, List.getElem?_eq_none (by rw [List.length_append, SW_len, hx]; omega)] at hi
        cases hi
  refine gW_pick hw (fun i => if i = 46 + j then 46 + nt else i) (fun i x hi => ?_) (fun i i2 x y hi hi2 he => ?_)
  · rcases key i x hi with ⟨h1, h2⟩ | ⟨h1, h2⟩
    · show _[if i = 46 + j then 46 + nt else i]? = _
      rw [if_neg (by omega)]
      exact h2
    · show _[if i = 46 + j then 46 + nt else i]? = _
      rw [if_pos h1, h2]
      exact LW_last
  · have a1 : i ≤ 46 + j := by rcases key i x hi with ⟨h1, h2⟩ | ⟨h1, h2⟩ <;> omega
    have a2 : i2 ≤ 46 + j := by rcases key i2 y hi2 with ⟨h1, h2⟩ | ⟨h1, h2⟩ <;> omega
    have he : (if i = 46 + j then 46 + nt else i) = if i2 = 46 + j then 46 + nt else i2 := he
    by_cases q1 : i = 46 + j <;> by_cases q2 : i2 = 46 + j
    · omega
    · rw [if_pos q1, if_neg q2] at he; omega
    · rw [if_neg q1, if_pos q2] at he; omega
    · rw [if_neg q1, if_neg q2] at he; omega
set_option maxHeartbeats 4000000 in
theorem l_nterm (C : Ctx p s m args meth c cL_act 15 RL (some .boolean)) (E : gEL D k s) (hw : gS D ws0 k qx r S T [] s H locs) {n a b d : Int32} {T' : St} (h : nterm T n a b d = some T') (hl : lv_has ls 15 [(1, .ref (r 0)), (11, .int n), (12, .int a), (13, .int b), (14, .int d)]) (hc : 0 + 1 ≤ R.cells) (hs : 0 + 3 ≤ R.slots)
    (kk : ∀ (H : Heap) (locs : List Loc), gS D ws0 k qx r S T' [] s H locs → W p l e R s m args below meth c H locs 1 3 Q (F0 m 831 ls [])) : W p l e R s m args below meth c H locs 0 0 Q (F0 m 796 ls []) := by
  obtain ⟨j, hj, hT, rfl⟩ := nterm_some h
  refine lv_aload_n C.1 C.2.1 dL_act_796 rfl (lv_at hl 0 rfl) ?_
  refine l_get C E hw 8 (by decide) kf_L_88 rfl dL_act_797 ?_
  refine lv_iload C.1 C.2.1 dL_act_800 (lv_at hl 1 rfl) ?_
  refine lv_iconst (v := 3) C.1 C.2.1 dL_act_802 (by decide) ?_
  refine l_newa C E hw 3 (by decide) (by decide) (by decide) hc hs dL_act_803 (fun qa H locs hw => ?_)
  refine lv_dup C.1 C.2.1 dL_act_805 rfl ?_
  refine lv_iconst (v := 0) C.1 C.2.1 dL_act_806 (by decide) ?_
  refine lv_iload C.1 C.2.1 dL_act_807 (lv_at hl 2 rfl) ?_
  refine l_xst C E hw (by unfold vp_in; decide) dL_act_809 (fun H locs hw => ?_)
  refine lv_dup C.1 C.2.1 dL_act_810 rfl ?_
  refine lv_iconst (v := 1) C.1 C.2.1 dL_act_811 (by decide) ?_
  refine lv_iload C.1 C.2.1 dL_act_812 (lv_at hl 3 rfl) ?_
  refine l_xst C E hw (by unfold vp_in; decide) dL_act_814 (fun H locs hw => ?_)
  refine lv_dup C.1 C.2.1 dL_act_815 rfl ?_
  refine lv_iconst (v := 2) C.1 C.2.1 dL_act_816 (by decide) ?_
  refine lv_iload C.1 C.2.1 dL_act_817 (lv_at hl 4 rfl) ?_
  refine l_xst C E hw (by unfold vp_in; decide) dL_act_819 (fun H locs hw => ?_)
  obtain ⟨tf, tq, nt, hg, hw⟩ := hw
  have hw : gW D ws0 (LW k qx r tf tq nt S T [(qa, .inl (k 0, 3, .inl (nrow a b d)))]) s H locs := hw
  refine l_aast C E hw hj dL_act_820 (fun H locs hw => ?_)
  refine lv_aload_n C.1 C.2.1 dL_act_821 rfl (lv_at hl 0 rfl) ?_
  refine lv_dup C.1 C.2.1 dL_act_822 rfl ?_
  refine s_get C E (LW_sw hw) 2 (by decide) kf_L_82 rfl dL_act_823 ?_
  refine lv_iconst (v := 1) C.1 C.2.1 dL_act_826 (by decide) ?_
  refine lv_iadd C.1 C.2.1 dL_act_827 ?_
  rw [hT]
  have hset := LW_set (k := k) (qx := qx) (r := r) (S := S) (ex := [(qa, .inl (k 0, 3, .inl (nrow a b d)))]) (tf := va_up tf j (some qa)) (tq := tq) (nt := nt) (i := 0) (T := T) (T' := up T (34 + 2) 0 (n + 1)) (a := 34 + 2) (by omega) (Or.inl ⟨rfl, by omega, by omega⟩) (fun b hb => up_oth hb)
  rw [swE_00 2 (by decide) (n + 1)] at hset
  refine g_put C E.E hw inW4 tyX4 tyX4_ok nmX4 16 (fs := sfs r T) (LW_at (i := 0) (by omega)) rfl 2 (by omega) kf_L_82 (tx4_i 2 (by decide)).1 (tx4_i 2 (by decide)).2 (by show 2 < 9; omega) hset dL_act_828 (fun H locs hw => ?_)
  obtain ⟨c1, c2⟩ := clamp_s hj
  obtain ⟨-, h2, h3⟩ := ix_some hj
  have hjn : j ≤ nt := by have := hg.2.1; rw [hT] at this; omega
  refine kk H locs ⟨va_up tf j (some qa), _, j + 1, ⟨fun i hi => ?_, ?_, by omega⟩, LW_term hjn hw⟩
  · by_cases hij : i = j
    · subst hij
      simp [va_up]
    · rw [if_neg hij]
      have := hg.1 i (by omega)
      simp [va_up, hij, this]
  · have : ntermS T n j a b d 36 0 = n + 1 := by
      unfold ntermS
      rw [if_neg (by omega), up_same]
      rfl
    rw [this, c1]
    exact Nat.le_refl _
end NTERM
end
section
theorem gW_sn {D : va_G} {ws0 ex : va_W} {s : State} {H : Heap} {locs : List Loc} {k : Nat → ClassId} {r : Nat → Nat} {tf : Nat → Option Nat} {tq : Nat → Nat} {nt : Nat} {T : St} (hw : gW D ws0 (SN k r tf tq nt T ++ ex) s H locs) : gW D ws0 (SW k r tf tq nt T ++ ex) s H locs := by rw [SN_e] at hw; exact hw
theorem F_L_below : FctS yL_below cL_below 2 (some .int) 2 := ⟨⟨kc_yL_below, kz_L, by decide +kernel, by decide +kernel, by decide +kernel⟩, kt_yL_below⟩
def fL_below (x0 : Int32) (x1 : Int32) : Option Int32 :=
  Option.bind (rmd (x0 &&& 2147483647) x1) fun v_1 =>
  some v_1
set_option maxHeartbeats 4000000 in
set_option maxRecDepth 100000 in
theorem ctL_below (l : Launch) (x0 : Int32) (x1 : Int32) {r1 : Int32} (hf : fL_below x0 x1 = some r1) : Met l yL_below (Cond.code yL_below cL_below 2 (some .int) :: XALL) ({ frames := 0, cells := 0, slots := 0, locals := 0 } : Room) (va_Pc [.int x0, .int x1] (fun _ => True)) (zQi r1) 0 0 (fun _ => False) := by
  unfold fL_below at hf
  refine Met.ofW (cc := cL_below) (maxL := 2) (ret := (some .int)) (by decide) rfl ?_
  intro p e s m args below meth c s₁ B hml hv
  obtain ⟨rfl, hg⟩ := hv
  have C : Ctx p s m _ meth c cL_below 2 RL (some .int) := Ctx.of B hml rfl
  have hw : zS s s.heap [] := va_S.rf
  have hl := lv_entry ([.int x0, .int x1]) (n := 2) (Nat.le_of_ble_eq_true rfl)
  rw [lg_entry_eq]
  generalize (lg_sl ([.int x0, .int x1]) ++ List.replicate (2 - (lg_sl ([.int x0, .int x1])).length) Slot.unset).toArray = ls at hl ⊢
  have hl : lv_has ls 2 [(0, .int x0), (1, .int x1)] := hl
  refine lv_iload_n C.1 C.2.1 dL_below_0 rfl (lv_at hl 0 rfl) ?_
  refine lv_ldc C.1 C.2.1 C.2.2.2.1 (C.2.2.2.2.1 _ kk_L_7) dL_below_1 ?_
  refine lv_iand C.1 C.2.1 dL_below_3 ?_
  refine lv_iload_n C.1 C.2.1 dL_below_4 rfl (lv_at hl 1 rfl) ?_
  obtain ⟨v_1, hv_1, hf⟩ := bnd hf
  refine l_irem C hv_1 dL_below_5 ?_
  exact z_iret C hw (Nat.le_of_ble_eq_true rfl) (Nat.le_of_ble_eq_true rfl) (Option.some.inj hf) dL_below_6
theorem F_X4_matches : FctV yX4_matches cX4_matches 5 (some (.array (.array .boolean))) 0 := ⟨⟨kc_yX4_matches, kz_X4, by decide +kernel, by decide +kernel, by decide +kernel⟩, ki_yX4_matches, ks_yX4_matches⟩
def fX4_matches_33 (T : St) (x2 : Int32) (j3 : Nat) (k15 : St → Int32 → Option St) : Nat → St → Int32 → Option St
  | 0, _, _ => none
  | n + 1, B, x4 =>
    if (T 35 0) ≤ x4 then
      Option.bind (some (x2 + 1)) fun x2_3 =>
      k15 B x2_3
    else
      Option.bind (ix (T 36 0).toNatClampNeg x2) fun j_4 =>
      Option.bind (ldT T j3 0) fun v_5 =>
      if v_5 = 0 then
        Option.bind (ldT T j3 1) fun v_39 =>
        Option.bind (fX4_hasTag T x4 v_39) fun v_40 =>
        Option.bind (stoM B (T 36 0).toNatClampNeg j_4 (T 35 0).toNatClampNeg x4 v_40) fun B_41 =>
        Option.bind (some (x4 + 1)) fun x4_42 =>
        fX4_matches_33 T x2 j3 k15 n B_41 x4_42
      else
        Option.bind (ldT T j3 0) fun v_6 =>
        if v_6 = 3 then
          Option.bind (ldT T j3 1) fun v_32 =>
          Option.bind (ix (T 36 0).toNatClampNeg v_32) fun j_33 =>
          Option.bind (ldM B (T 36 0).toNatClampNeg j_33 (T 35 0).toNatClampNeg x4) fun v_34 =>
          if v_34 = 0 then
            Option.bind (stoM B (T 36 0).toNatClampNeg j_4 (T 35 0).toNatClampNeg x4 1) fun B_37 =>
            Option.bind (some (x4 + 1)) fun x4_38 =>
            fX4_matches_33 T x2 j3 k15 n B_37 x4_38
          else
            Option.bind (stoM B (T 36 0).toNatClampNeg j_4 (T 35 0).toNatClampNeg x4 0) fun B_35 =>
            Option.bind (some (x4 + 1)) fun x4_36 =>
            fX4_matches_33 T x2 j3 k15 n B_35 x4_36
        else
          Option.bind (ldT T j3 0) fun v_7 =>
          if v_7 = 1 then
            Option.bind (ldT T j3 1) fun v_20 =>
            Option.bind (ix (T 36 0).toNatClampNeg v_20) fun j_21 =>
            Option.bind (ldM B (T 36 0).toNatClampNeg j_21 (T 35 0).toNatClampNeg x4) fun v_22 =>
            if v_22 = 0 then
              Option.bind (stoM B (T 36 0).toNatClampNeg j_4 (T 35 0).toNatClampNeg x4 0) fun B_23 =>
              Option.bind (some (x4 + 1)) fun x4_24 =>
              fX4_matches_33 T x2 j3 k15 n B_23 x4_24
            else
              Option.bind (ldT T j3 2) fun v_25 =>
              Option.bind (ix (T 36 0).toNatClampNeg v_25) fun j_26 =>
              Option.bind (ldM B (T 36 0).toNatClampNeg j_26 (T 35 0).toNatClampNeg x4) fun v_27 =>
              if v_27 = 0 then
                Option.bind (stoM B (T 36 0).toNatClampNeg j_4 (T 35 0).toNatClampNeg x4 0) fun B_28 =>
                Option.bind (some (x4 + 1)) fun x4_29 =>
                fX4_matches_33 T x2 j3 k15 n B_28 x4_29
              else
                Option.bind (stoM B (T 36 0).toNatClampNeg j_4 (T 35 0).toNatClampNeg x4 1) fun B_30 =>
                Option.bind (some (x4 + 1)) fun x4_31 =>
                fX4_matches_33 T x2 j3 k15 n B_30 x4_31
          else
            Option.bind (ldT T j3 1) fun v_8 =>
            Option.bind (ix (T 36 0).toNatClampNeg v_8) fun j_9 =>
            Option.bind (ldM B (T 36 0).toNatClampNeg j_9 (T 35 0).toNatClampNeg x4) fun v_10 =>
            if v_10 = 0 then
              Option.bind (ldT T j3 2) fun v_13 =>
              Option.bind (ix (T 36 0).toNatClampNeg v_13) fun j_14 =>
              Option.bind (ldM B (T 36 0).toNatClampNeg j_14 (T 35 0).toNatClampNeg x4) fun v_15 =>
              if v_15 = 0 then
                Option.bind (stoM B (T 36 0).toNatClampNeg j_4 (T 35 0).toNatClampNeg x4 0) fun B_16 =>
                Option.bind (some (x4 + 1)) fun x4_17 =>
                fX4_matches_33 T x2 j3 k15 n B_16 x4_17
              else
                Option.bind (stoM B (T 36 0).toNatClampNeg j_4 (T 35 0).toNatClampNeg x4 1) fun B_18 =>
                Option.bind (some (x4 + 1)) fun x4_19 =>
                fX4_matches_33 T x2 j3 k15 n B_18 x4_19
            else
              Option.bind (stoM B (T 36 0).toNatClampNeg j_4 (T 35 0).toNatClampNeg x4 1) fun B_11 =>
              Option.bind (some (x4 + 1)) fun x4_12 =>
              fX4_matches_33 T x2 j3 k15 n B_11 x4_12
set_option maxHeartbeats 4000000 in
set_option maxRecDepth 100000 in
theorem wX4_matches_33 {p : Program} {l : Launch} {e : Env} {s : State} {m : MethodId} {args : Array Value} {below : List Frame} {meth : Method} {c : Code} {D : va_G} {k : Nat → ClassId} {r : Nat → Nat} {tf : Nat → Option Nat} {tq : Nat → Nat} {nt : Nat} (C : Ctx p s m args meth c cX4_matches 5 RX4 (some (.array (.array .boolean)))) (E : gEL D k s) {T : St} (hg : gok tf tq nt (T 36 0)) {B1 : St} (x2 : Int32) (j3 : Nat) (k15 : St → Int32 → Option St) (hk15 : ∀ (B : St) (x2 : Int32), k15 B x2 = some B1 → ∀ (qa : Nat) (mq : Nat → Nat) (H : Heap) (locs : List Loc) (ls : Array Slot), gW D (SN k r tf tq nt T) (SW k r tf tq nt T ++ (mat k qa mq (T 36 0).toNatClampNeg (T 35 0).toNatClampNeg B)) s H locs → lv_has ls 5 [(0, .ref (r 0)), (1, .ref (qa)), (2, .int x2)] → W p l e ({ frames := 2, cells := 21, slots := 520, locals := 46 } : Room) s m args below meth c H locs 21 520 (MQ below (gQM D k r tf tq nt T B1 s.heap.size) args s 21 520 (va_A (SN k r tf tq nt T) s.heap.size)) (F0 m 15 ls [])) : ∀ (n : Nat) (B : St) (x4 : Int32), fX4_matches_33 T x2 j3 k15 n B x4 = some B1 → ∀ (qa : Nat) (mq : Nat → Nat) (H : Heap) (locs : List Loc) (ls : Array Slot), gW D (SN k r tf tq nt T) (SW k r tf tq nt T ++ (mat k qa mq (T 36 0).toNatClampNeg (T 35 0).toNatClampNeg B)) s H locs → lv_has ls 5 [(0, .ref (r 0)), (1, .ref (qa)), (2, .int x2), (3, .ref (tq j3)), (4, .int x4)] → W p l e ({ frames := 2, cells := 21, slots := 520, locals := 46 } : Room) s m args below meth c H locs 21 520 (MQ below (gQM D k r tf tq nt T B1 s.heap.size) args s 21 520 (va_A (SN k r tf tq nt T) s.heap.size)) (F0 m 33 ls []) := by
  intro n
  induction n with
  | zero => intro B x4 hf; rw [fX4_matches_33] at hf; cases hf
  | succ n ih =>
    intro B x4 hf qa mq H locs ls hw hl
    rw [fX4_matches_33] at hf
    refine lv_iload C.1 C.2.1 dX4_matches_33 (lv_at hl 4 rfl) ?_
    refine lv_aload_n C.1 C.2.1 dX4_matches_35 rfl (lv_at hl 0 rfl) ?_
    refine s_get C E hw 1 (by decide) kf_X4_40 rfl dX4_matches_36 ?_
    refine lv_icmp_ge (tgt := 162) C.1 C.2.1 dX4_matches_39 (by decide) (fun hc => ?_) (fun hc => ?_)
    · have hf := ift hc hf
      obtain ⟨x2_3, hx2_3, hf⟩ := bnd hf
      refine lv_iinc (v := x2_3) (lv' := [(2, .int x2_3), (0, .ref (r 0)), (1, .ref (qa)), (3, .ref (tq j3)), (4, .int x4)]) C.1 C.2.1 dX4_matches_162 hl (k := 2) rfl (inc1 hx2_3) (by decide) rfl (fun ls hl => ?_)
      refine lv_goto (tgt := 15) C.1 C.2.1 dX4_matches_165 (by decide) ?_
      exact hk15 B x2_3 hf _ _ _ _ _ hw (lv_sub hl [1, 2, 0] rfl)
    · have hf := iff_ hc hf
      refine lv_aload_n C.1 C.2.1 dX4_matches_42 rfl (lv_at hl 1 rfl) ?_
      refine lv_iload_n C.1 C.2.1 dX4_matches_43 rfl (lv_at hl 2 rfl) ?_
      obtain ⟨j_4, hj_4, hf⟩ := bnd hf
      refine m_aa C E hw hj_4 dX4_matches_44 ?_
      refine lv_iload C.1 C.2.1 dX4_matches_45 (lv_at hl 4 rfl) ?_
      refine lv_aload_n C.1 C.2.1 dX4_matches_47 rfl (lv_at hl 3 rfl) ?_
      refine lv_iconst (v := 0) C.1 C.2.1 dX4_matches_48 (by decide) ?_
      obtain ⟨v_5, hv_5, hf⟩ := bnd hf
      refine s_ldT C E hg hw hv_5 dX4_matches_49 ?_
      refine lv_if_ne (tgt := 65) C.1 C.2.1 dX4_matches_50 (by decide) (fun hc => ?_) (fun hc => ?_)
      · have hf := iff_ hc hf
        refine lv_aload_n C.1 C.2.1 dX4_matches_65 rfl (lv_at hl 3 rfl) ?_
        refine lv_iconst (v := 0) C.1 C.2.1 dX4_matches_66 (by decide) ?_
        obtain ⟨v_6, hv_6, hf⟩ := bnd hf
        refine s_ldT C E hg hw hv_6 dX4_matches_67 ?_
        refine lv_iconst (v := 3) C.1 C.2.1 dX4_matches_68 (by decide) ?_
        refine lv_icmp_ne (tgt := 91) C.1 C.2.1 dX4_matches_69 (by decide) (fun hc => ?_) (fun hc => ?_)
        · have hf := iff_ hc hf
          refine lv_aload_n C.1 C.2.1 dX4_matches_91 rfl (lv_at hl 3 rfl) ?_
          refine lv_iconst (v := 0) C.1 C.2.1 dX4_matches_92 (by decide) ?_
          obtain ⟨v_7, hv_7, hf⟩ := bnd hf
          refine s_ldT C E hg hw hv_7 dX4_matches_93 ?_
          refine lv_iconst (v := 1) C.1 C.2.1 dX4_matches_94 (by decide) ?_
          refine lv_icmp_ne (tgt := 128) C.1 C.2.1 dX4_matches_95 (by decide) (fun hc => ?_) (fun hc => ?_)
          · have hf := iff_ hc hf
            refine lv_aload_n C.1 C.2.1 dX4_matches_128 rfl (lv_at hl 1 rfl) ?_
            refine lv_aload_n C.1 C.2.1 dX4_matches_129 rfl (lv_at hl 3 rfl) ?_
            refine lv_iconst (v := 1) C.1 C.2.1 dX4_matches_130 (by decide) ?_
            obtain ⟨v_8, hv_8, hf⟩ := bnd hf
            refine s_ldT C E hg hw hv_8 dX4_matches_131 ?_
            obtain ⟨j_9, hj_9, hf⟩ := bnd hf
            refine m_aa C E hw hj_9 dX4_matches_132 ?_
            refine lv_iload C.1 C.2.1 dX4_matches_133 (lv_at hl 4 rfl) ?_
            obtain ⟨v_10, hv_10, hf⟩ := bnd hf
            refine m_ld C E hw hv_10 dX4_matches_135 ?_
            refine lv_if_ne (tgt := 150) C.1 C.2.1 dX4_matches_136 (by decide) (fun hc => ?_) (fun hc => ?_)
            · have hf := iff_ hc hf
              refine lv_iconst (v := 1) C.1 C.2.1 dX4_matches_150 (by decide) ?_
              refine lv_goto (tgt := 155) C.1 C.2.1 dX4_matches_151 (by decide) ?_
              obtain ⟨B_11, hB_11, hf⟩ := bnd hf
              refine m_st C E hw hB_11 dX4_matches_155 (fun H locs hw => ?_)
              obtain ⟨x4_12, hx4_12, hf⟩ := bnd hf
              refine lv_iinc (v := x4_12) (lv' := [(4, .int x4_12), (0, .ref (r 0)), (1, .ref (qa)), (2, .int x2), (3, .ref (tq j3))]) C.1 C.2.1 dX4_matches_156 hl (k := 4) rfl (inc1 hx4_12) (by decide) rfl (fun ls hl => ?_)
              refine lv_goto (tgt := 33) C.1 C.2.1 dX4_matches_159 (by decide) ?_
              exact ih B_11 x4_12 hf _ _ _ _ _ hw (lv_sub hl [1, 2, 3, 4, 0] rfl)
            · have hf := ift hc hf
              refine lv_aload_n C.1 C.2.1 dX4_matches_139 rfl (lv_at hl 1 rfl) ?_
              refine lv_aload_n C.1 C.2.1 dX4_matches_140 rfl (lv_at hl 3 rfl) ?_
              refine lv_iconst (v := 2) C.1 C.2.1 dX4_matches_141 (by decide) ?_
              obtain ⟨v_13, hv_13, hf⟩ := bnd hf
              refine s_ldT C E hg hw hv_13 dX4_matches_142 ?_
              obtain ⟨j_14, hj_14, hf⟩ := bnd hf
              refine m_aa C E hw hj_14 dX4_matches_143 ?_
              refine lv_iload C.1 C.2.1 dX4_matches_144 (lv_at hl 4 rfl) ?_
              obtain ⟨v_15, hv_15, hf⟩ := bnd hf
              refine m_ld C E hw hv_15 dX4_matches_146 ?_
              refine lv_if_eq (tgt := 154) C.1 C.2.1 dX4_matches_147 (by decide) (fun hc => ?_) (fun hc => ?_)
              · have hf := ift hc hf
                refine lv_iconst (v := 0) C.1 C.2.1 dX4_matches_154 (by decide) ?_
                obtain ⟨B_16, hB_16, hf⟩ := bnd hf
                refine m_st C E hw hB_16 dX4_matches_155 (fun H locs hw => ?_)
                obtain ⟨x4_17, hx4_17, hf⟩ := bnd hf
                refine lv_iinc (v := x4_17) (lv' := [(4, .int x4_17), (0, .ref (r 0)), (1, .ref (qa)), (2, .int x2), (3, .ref (tq j3))]) C.1 C.2.1 dX4_matches_156 hl (k := 4) rfl (inc1 hx4_17) (by decide) rfl (fun ls hl => ?_)
                refine lv_goto (tgt := 33) C.1 C.2.1 dX4_matches_159 (by decide) ?_
                exact ih B_16 x4_17 hf _ _ _ _ _ hw (lv_sub hl [1, 2, 3, 4, 0] rfl)
              · have hf := iff_ hc hf
                refine lv_iconst (v := 1) C.1 C.2.1 dX4_matches_150 (by decide) ?_
                refine lv_goto (tgt := 155) C.1 C.2.1 dX4_matches_151 (by decide) ?_
                obtain ⟨B_18, hB_18, hf⟩ := bnd hf
                refine m_st C E hw hB_18 dX4_matches_155 (fun H locs hw => ?_)
                obtain ⟨x4_19, hx4_19, hf⟩ := bnd hf
                refine lv_iinc (v := x4_19) (lv' := [(4, .int x4_19), (0, .ref (r 0)), (1, .ref (qa)), (2, .int x2), (3, .ref (tq j3))]) C.1 C.2.1 dX4_matches_156 hl (k := 4) rfl (inc1 hx4_19) (by decide) rfl (fun ls hl => ?_)
                refine lv_goto (tgt := 33) C.1 C.2.1 dX4_matches_159 (by decide) ?_
                exact ih B_18 x4_19 hf _ _ _ _ _ hw (lv_sub hl [1, 2, 3, 4, 0] rfl)
          · have hf := ift hc hf
            refine lv_aload_n C.1 C.2.1 dX4_matches_98 rfl (lv_at hl 1 rfl) ?_
            refine lv_aload_n C.1 C.2.1 dX4_matches_99 rfl (lv_at hl 3 rfl) ?_
            refine lv_iconst (v := 1) C.1 C.2.1 dX4_matches_100 (by decide) ?_
            obtain ⟨v_20, hv_20, hf⟩ := bnd hf
            refine s_ldT C E hg hw hv_20 dX4_matches_101 ?_
            obtain ⟨j_21, hj_21, hf⟩ := bnd hf
            refine m_aa C E hw hj_21 dX4_matches_102 ?_
            refine lv_iload C.1 C.2.1 dX4_matches_103 (lv_at hl 4 rfl) ?_
            obtain ⟨v_22, hv_22, hf⟩ := bnd hf
            refine m_ld C E hw hv_22 dX4_matches_105 ?_
            refine lv_if_eq (tgt := 124) C.1 C.2.1 dX4_matches_106 (by decide) (fun hc => ?_) (fun hc => ?_)
            · have hf := ift hc hf
              refine lv_iconst (v := 0) C.1 C.2.1 dX4_matches_124 (by decide) ?_
              refine lv_goto (tgt := 155) C.1 C.2.1 dX4_matches_125 (by decide) ?_
              obtain ⟨B_23, hB_23, hf⟩ := bnd hf
              refine m_st C E hw hB_23 dX4_matches_155 (fun H locs hw => ?_)
              obtain ⟨x4_24, hx4_24, hf⟩ := bnd hf
              refine lv_iinc (v := x4_24) (lv' := [(4, .int x4_24), (0, .ref (r 0)), (1, .ref (qa)), (2, .int x2), (3, .ref (tq j3))]) C.1 C.2.1 dX4_matches_156 hl (k := 4) rfl (inc1 hx4_24) (by decide) rfl (fun ls hl => ?_)
              refine lv_goto (tgt := 33) C.1 C.2.1 dX4_matches_159 (by decide) ?_
              exact ih B_23 x4_24 hf _ _ _ _ _ hw (lv_sub hl [1, 2, 3, 4, 0] rfl)
            · have hf := iff_ hc hf
              refine lv_aload_n C.1 C.2.1 dX4_matches_109 rfl (lv_at hl 1 rfl) ?_
              refine lv_aload_n C.1 C.2.1 dX4_matches_110 rfl (lv_at hl 3 rfl) ?_
              refine lv_iconst (v := 2) C.1 C.2.1 dX4_matches_111 (by decide) ?_
              obtain ⟨v_25, hv_25, hf⟩ := bnd hf
              refine s_ldT C E hg hw hv_25 dX4_matches_112 ?_
              obtain ⟨j_26, hj_26, hf⟩ := bnd hf
              refine m_aa C E hw hj_26 dX4_matches_113 ?_
              refine lv_iload C.1 C.2.1 dX4_matches_114 (lv_at hl 4 rfl) ?_
              obtain ⟨v_27, hv_27, hf⟩ := bnd hf
              refine m_ld C E hw hv_27 dX4_matches_116 ?_
              refine lv_if_eq (tgt := 124) C.1 C.2.1 dX4_matches_117 (by decide) (fun hc => ?_) (fun hc => ?_)
              · have hf := ift hc hf
                refine lv_iconst (v := 0) C.1 C.2.1 dX4_matches_124 (by decide) ?_
                refine lv_goto (tgt := 155) C.1 C.2.1 dX4_matches_125 (by decide) ?_
                obtain ⟨B_28, hB_28, hf⟩ := bnd hf
                refine m_st C E hw hB_28 dX4_matches_155 (fun H locs hw => ?_)
                obtain ⟨x4_29, hx4_29, hf⟩ := bnd hf
                refine lv_iinc (v := x4_29) (lv' := [(4, .int x4_29), (0, .ref (r 0)), (1, .ref (qa)), (2, .int x2), (3, .ref (tq j3))]) C.1 C.2.1 dX4_matches_156 hl (k := 4) rfl (inc1 hx4_29) (by decide) rfl (fun ls hl => ?_)
                refine lv_goto (tgt := 33) C.1 C.2.1 dX4_matches_159 (by decide) ?_
                exact ih B_28 x4_29 hf _ _ _ _ _ hw (lv_sub hl [1, 2, 3, 4, 0] rfl)
              · have hf := iff_ hc hf
                refine lv_iconst (v := 1) C.1 C.2.1 dX4_matches_120 (by decide) ?_
                refine lv_goto (tgt := 155) C.1 C.2.1 dX4_matches_121 (by decide) ?_
                obtain ⟨B_30, hB_30, hf⟩ := bnd hf
                refine m_st C E hw hB_30 dX4_matches_155 (fun H locs hw => ?_)
                obtain ⟨x4_31, hx4_31, hf⟩ := bnd hf
                refine lv_iinc (v := x4_31) (lv' := [(4, .int x4_31), (0, .ref (r 0)), (1, .ref (qa)), (2, .int x2), (3, .ref (tq j3))]) C.1 C.2.1 dX4_matches_156 hl (k := 4) rfl (inc1 hx4_31) (by decide) rfl (fun ls hl => ?_)
                refine lv_goto (tgt := 33) C.1 C.2.1 dX4_matches_159 (by decide) ?_
                exact ih B_30 x4_31 hf _ _ _ _ _ hw (lv_sub hl [1, 2, 3, 4, 0] rfl)
        · have hf := ift hc hf
          refine lv_aload_n C.1 C.2.1 dX4_matches_72 rfl (lv_at hl 1 rfl) ?_
          refine lv_aload_n C.1 C.2.1 dX4_matches_73 rfl (lv_at hl 3 rfl) ?_
          refine lv_iconst (v := 1) C.1 C.2.1 dX4_matches_74 (by decide) ?_
          obtain ⟨v_32, hv_32, hf⟩ := bnd hf
          refine s_ldT C E hg hw hv_32 dX4_matches_75 ?_
          obtain ⟨j_33, hj_33, hf⟩ := bnd hf
          refine m_aa C E hw hj_33 dX4_matches_76 ?_
          refine lv_iload C.1 C.2.1 dX4_matches_77 (lv_at hl 4 rfl) ?_
          obtain ⟨v_34, hv_34, hf⟩ := bnd hf
          refine m_ld C E hw hv_34 dX4_matches_79 ?_
          refine lv_if_ne (tgt := 87) C.1 C.2.1 dX4_matches_80 (by decide) (fun hc => ?_) (fun hc => ?_)
          · have hf := iff_ hc hf
            refine lv_iconst (v := 0) C.1 C.2.1 dX4_matches_87 (by decide) ?_
            refine lv_goto (tgt := 155) C.1 C.2.1 dX4_matches_88 (by decide) ?_
            obtain ⟨B_35, hB_35, hf⟩ := bnd hf
            refine m_st C E hw hB_35 dX4_matches_155 (fun H locs hw => ?_)
            obtain ⟨x4_36, hx4_36, hf⟩ := bnd hf
            refine lv_iinc (v := x4_36) (lv' := [(4, .int x4_36), (0, .ref (r 0)), (1, .ref (qa)), (2, .int x2), (3, .ref (tq j3))]) C.1 C.2.1 dX4_matches_156 hl (k := 4) rfl (inc1 hx4_36) (by decide) rfl (fun ls hl => ?_)
            refine lv_goto (tgt := 33) C.1 C.2.1 dX4_matches_159 (by decide) ?_
            exact ih B_35 x4_36 hf _ _ _ _ _ hw (lv_sub hl [1, 2, 3, 4, 0] rfl)
          · have hf := ift hc hf
            refine lv_iconst (v := 1) C.1 C.2.1 dX4_matches_83 (by decide) ?_
            refine lv_goto (tgt := 155) C.1 C.2.1 dX4_matches_84 (by decide) ?_
            obtain ⟨B_37, hB_37, hf⟩ := bnd hf
            refine m_st C E hw hB_37 dX4_matches_155 (fun H locs hw => ?_)
            obtain ⟨x4_38, hx4_38, hf⟩ := bnd hf
            refine lv_iinc (v := x4_38) (lv' := [(4, .int x4_38), (0, .ref (r 0)), (1, .ref (qa)), (2, .int x2), (3, .ref (tq j3))]) C.1 C.2.1 dX4_matches_156 hl (k := 4) rfl (inc1 hx4_38) (by decide) rfl (fun ls hl => ?_)
            refine lv_goto (tgt := 33) C.1 C.2.1 dX4_matches_159 (by decide) ?_
            exact ih B_37 x4_38 hf _ _ _ _ _ hw (lv_sub hl [1, 2, 3, 4, 0] rfl)
      · have hf := ift hc hf
        refine lv_aload_n C.1 C.2.1 dX4_matches_53 rfl (lv_at hl 0 rfl) ?_
        refine lv_iload C.1 C.2.1 dX4_matches_54 (lv_at hl 4 rfl) ?_
        refine lv_aload_n C.1 C.2.1 dX4_matches_56 rfl (lv_at hl 3 rfl) ?_
        refine lv_iconst (v := 1) C.1 C.2.1 dX4_matches_57 (by decide) ?_
        obtain ⟨v_39, hv_39, hf⟩ := bnd hf
        refine s_ldT C E hg hw hv_39 dX4_matches_58 ?_
        obtain ⟨v_40, hv_40, hf⟩ := bnd hf
        refine m_si (rm := ({ frames := 1, cells := 0, slots := 0, locals := 23 } : Room)) (As := [.int x4, .int v_39]) (rest := [.int x4, .ref (mq j_4)]) C E hw F_X4_hasTag rfl (fun _ => ctX4_hasTag l (k := k) (D := D) (r := r) (tf := tf) (tq := tq) (nt := nt) T x4 v_39 _ hv_40) km_X4_43 rfl hl.1 rfl (Nat.le_of_ble_eq_true rfl) ⟨(Nat.le_of_ble_eq_true rfl), (Nat.le_of_ble_eq_true rfl)⟩ ⟨(Nat.le_of_ble_eq_true rfl), (Nat.le_of_ble_eq_true rfl)⟩ dX4_matches_59 (fun H locs hw => ?_)
        refine lv_goto (tgt := 155) C.1 C.2.1 dX4_matches_62 (by decide) ?_
        obtain ⟨B_41, hB_41, hf⟩ := bnd hf
        refine m_st C E hw hB_41 dX4_matches_155 (fun H locs hw => ?_)
        obtain ⟨x4_42, hx4_42, hf⟩ := bnd hf
        refine lv_iinc (v := x4_42) (lv' := [(4, .int x4_42), (0, .ref (r 0)), (1, .ref (qa)), (2, .int x2), (3, .ref (tq j3))]) C.1 C.2.1 dX4_matches_156 hl (k := 4) rfl (inc1 hx4_42) (by decide) rfl (fun ls hl => ?_)
        refine lv_goto (tgt := 33) C.1 C.2.1 dX4_matches_159 (by decide) ?_
        exact ih B_41 x4_42 hf _ _ _ _ _ hw (lv_sub hl [1, 2, 3, 4, 0] rfl)
def fX4_matches_15 (T : St) : Nat → St → Int32 → Option St
  | 0, _, _ => none
  | n + 1, B, x2 =>
    if (T 36 0) ≤ x2 then
      some B
    else
      Option.bind (ix (T 36 0).toNatClampNeg x2) fun j_2 =>
      fX4_matches_33 T x2 j_2 (fX4_matches_15 T n) 100 B 0
set_option maxHeartbeats 4000000 in
set_option maxRecDepth 100000 in
theorem wX4_matches_15 {p : Program} {l : Launch} {e : Env} {s : State} {m : MethodId} {args : Array Value} {below : List Frame} {meth : Method} {c : Code} {D : va_G} {k : Nat → ClassId} {r : Nat → Nat} {tf : Nat → Option Nat} {tq : Nat → Nat} {nt : Nat} (C : Ctx p s m args meth c cX4_matches 5 RX4 (some (.array (.array .boolean)))) (E : gEL D k s) {T : St} (hg : gok tf tq nt (T 36 0)) {B1 : St} : ∀ (n : Nat) (B : St) (x2 : Int32), fX4_matches_15 T n B x2 = some B1 → ∀ (qa : Nat) (mq : Nat → Nat) (H : Heap) (locs : List Loc) (ls : Array Slot), gW D (SN k r tf tq nt T) (SW k r tf tq nt T ++ (mat k qa mq (T 36 0).toNatClampNeg (T 35 0).toNatClampNeg B)) s H locs → lv_has ls 5 [(0, .ref (r 0)), (1, .ref (qa)), (2, .int x2)] → W p l e ({ frames := 2, cells := 21, slots := 520, locals := 46 } : Room) s m args below meth c H locs 21 520 (MQ below (gQM D k r tf tq nt T B1 s.heap.size) args s 21 520 (va_A (SN k r tf tq nt T) s.heap.size)) (F0 m 15 ls []) := by
  intro n
  induction n with
  | zero => intro B x2 hf; rw [fX4_matches_15] at hf; cases hf
  | succ n ih =>
    intro B x2 hf qa mq H locs ls hw hl
    rw [fX4_matches_15] at hf
    refine lv_iload_n C.1 C.2.1 dX4_matches_15 rfl (lv_at hl 2 rfl) ?_
    refine lv_aload_n C.1 C.2.1 dX4_matches_16 rfl (lv_at hl 0 rfl) ?_
    refine s_get C E hw 2 (by decide) kf_X4_37 rfl dX4_matches_17 ?_
    refine lv_icmp_ge (tgt := 168) C.1 C.2.1 dX4_matches_20 (by decide) (fun hc => ?_) (fun hc => ?_)
    · have hf := ift hc hf
      refine lv_aload_n C.1 C.2.1 dX4_matches_168 rfl (lv_at hl 1 rfl) ?_
      exact m_aret C hw (Nat.le_of_ble_eq_true rfl) (Nat.le_of_ble_eq_true rfl) (Option.some.inj hf) dX4_matches_169
    · have hf := iff_ hc hf
      refine lv_aload_n C.1 C.2.1 dX4_matches_23 rfl (lv_at hl 0 rfl) ?_
      refine s_get C E hw 8 (by decide) kf_X4_25 rfl dX4_matches_24 ?_
      refine lv_iload_n C.1 C.2.1 dX4_matches_27 rfl (lv_at hl 2 rfl) ?_
      obtain ⟨j_2, hj_2, hf⟩ := bnd hf
      refine s_aaT C E hg hw hj_2 dX4_matches_28 ?_
      refine lv_astore_n (lv' := [(3, .ref (tq j_2)), (0, .ref (r 0)), (1, .ref (qa)), (2, .int x2)]) C.1 C.2.1 dX4_matches_29 rfl hl (by decide) rfl (fun ls hl => ?_)
      refine lv_iconst (v := 0) C.1 C.2.1 dX4_matches_30 (by decide) ?_
      refine lv_istore (lv' := [(4, .int 0), (3, .ref (tq j_2)), (0, .ref (r 0)), (1, .ref (qa)), (2, .int x2)]) C.1 C.2.1 dX4_matches_31 hl (by decide) rfl (fun ls hl => ?_)
      exact wX4_matches_33 C E hg x2 j_2 (fX4_matches_15 T n) ih 100 B 0 hf _ _ _ _ _ hw (lv_sub hl [2, 3, 4, 1, 0] rfl)
end
section
def fX4_matches (T : St) : Option St :=
  Option.bind (mkM T) fun B_1 =>
  fX4_matches_15 T 100 B_1 0
set_option maxHeartbeats 4000000 in
set_option maxRecDepth 100000 in
theorem ctX4_matches (l : Launch) {D : va_G} {k : Nat → ClassId} {r : Nat → Nat} {tf : Nat → Option Nat} {tq : Nat → Nat} {nt : Nat} (T : St) (hg : gok tf tq nt (T 36 0)) (sz : Nat) {B1 : St} (hf : fX4_matches T = some B1) : Met l yX4_matches (Cond.code yX4_matches cX4_matches 5 (some (.array (.array .boolean))) :: XALL) ({ frames := 2, cells := 21, slots := 520, locals := 46 } : Room) (va_Pc [.ref (r 0)] (gPreL D k (SN k r tf tq nt T) sz)) (gQM D k r tf tq nt T B1 sz) 21 520 (va_A (SN k r tf tq nt T) sz) := by
  unfold fX4_matches at hf
  refine Met.ofW (cc := cX4_matches) (maxL := 5) (ret := (some (.array (.array .boolean)))) (by decide) rfl ?_
  intro p e s m args below meth c s₁ B hml hv
  obtain ⟨rfl, hgv⟩ := hv
  have C : Ctx p s m _ meth c cX4_matches 5 RX4 (some (.array (.array .boolean))) := Ctx.of B hml rfl
  obtain ⟨E, hw, hsz⟩ := gL_start hgv
  subst hsz
  have hl := lv_entry ([.ref (r 0)]) (n := 5) (Nat.le_of_ble_eq_true rfl)
  rw [lg_entry_eq]
  generalize (lg_sl ([.ref (r 0)]) ++ List.replicate (5 - (lg_sl ([.ref (r 0)])).length) Slot.unset).toArray = ls at hl ⊢
  have hl : lv_has ls 5 [(0, .ref (r 0))] := hl
  refine lv_aload_n C.1 C.2.1 dX4_matches_0 rfl (lv_at hl 0 rfl) ?_
  refine s_get C E hw 2 (by decide) kf_X4_37 rfl dX4_matches_1 ?_
  refine lv_aload_n C.1 C.2.1 dX4_matches_4 rfl (lv_at hl 0 rfl) ?_
  refine s_get C E hw 1 (by decide) kf_X4_40 rfl dX4_matches_5 ?_
  obtain ⟨B_1, hB_1, hf⟩ := bnd hf
  obtain ⟨h1, h2, h3, h4, h5⟩ := mkM_some hB_1
  refine g_newM C E hw kl_X4_13 _ _ h1 h3 rfl rfl (by omega) (by omega) (mkM_c h2) (mkM_s h2 h4) dX4_matches_8 (fun qa mq H hw => ?_)
  have hw := gW_sn hw
  rw [← h5] at hw
  refine W.widen (k := 21) (n := 520) (mkM_c1 h2) (mkM_s1 h2 h4) ?_
  refine lv_astore_n (lv' := [(1, .ref (qa)), (0, .ref (r 0))]) C.1 C.2.1 dX4_matches_12 rfl hl (by decide) rfl (fun ls hl => ?_)
  refine lv_iconst (v := 0) C.1 C.2.1 dX4_matches_13 (by decide) ?_
  refine lv_istore_n (lv' := [(2, .int 0), (1, .ref (qa)), (0, .ref (r 0))]) C.1 C.2.1 dX4_matches_14 rfl hl (by decide) rfl (fun ls hl => ?_)
  exact wX4_matches_15 C E hg 100 B_1 0 hf _ _ _ _ _ hw (lv_sub hl [2, 1, 0] rfl)
end
