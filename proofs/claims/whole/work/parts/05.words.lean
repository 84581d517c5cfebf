/-! the words of a call -/
section OXW
variable {R : Room} {s : State} {args : Array Value} {own C : String} {index maxL : Nat} {y : MethodName} {bytes : ByteArray} {rt : Option FieldType} {rm : Room}
theorem ox_cwV (n : Nat) (ht : ∀ w ∈ ox_ws, w.before args s = true) (hc : Cond.code y bytes maxL rt ∈ ox_ws) (hini : Cond.initialized y.cls ∈ ox_ws) (hl : Cond.methodLink own index y ∈ ox_ws) (hin : Cond.instanceMethod y ∈ ox_ws) (hsel : Cond.selects C y y ∈ ox_ws) (hd : y.cls ≠ "java/lang/invoke/MethodHandle" ∧ y.cls ≠ "java/lang/invoke/VarHandle" ∧ (parseMethodDescriptor y.desc).map (fun d => d.parameters.length) = some n) (hR : rm.cells = 0 ∧ rm.slots = 0 ∧ rm.frames + 1 ≤ R.frames ∧ 8 + (maxL + 11) + rm.locals ≤ R.locals) : CallW R s args own C index y bytes maxL rt (Cond.code y bytes maxL rt :: ox_ws) rm 0 0 n :=
  ⟨callB_of n ht (ox_goodIn (fun w h => (List.mem_cons.mp h).elim (fun e => e ▸ hc) id)) rfl hR.1 hR.2.1 (ht _ hini) (ht _ hl) hd hR.2.2, ht _ hin, ht _ hsel⟩
theorem ox_cwS (n : Nat) (ht : ∀ w ∈ ox_ws, w.before args s = true) (hc : Cond.code y bytes maxL rt ∈ ox_ws) (hini : Cond.initialized y.cls ∈ ox_ws) (hl : Cond.methodLink own index y ∈ ox_ws) (hst : Cond.static y ∈ ox_ws) (hd : y.cls ≠ "java/lang/invoke/MethodHandle" ∧ y.cls ≠ "java/lang/invoke/VarHandle" ∧ (parseMethodDescriptor y.desc).map (fun d => d.parameters.length) = some n) (hR : rm.cells = 0 ∧ rm.slots = 0 ∧ rm.frames + 1 ≤ R.frames ∧ 8 + (maxL + 11) + rm.locals ≤ R.locals) : CallB R s args own index y bytes maxL rt (Cond.code y bytes maxL rt :: ox_ws) rm 0 0 n ∧ (Cond.static y).before args s = true :=
  ⟨callB_of n ht (ox_goodIn (fun w h => (List.mem_cons.mp h).elim (fun e => e ▸ hc) id)) rfl hR.1 hR.2.1 (ht _ hini) (ht _ hl) hd hR.2.2, ht _ hst⟩
theorem ox_cwSN {host : String} (n : Nat) (ht : ∀ w ∈ ox_ws, w.before args s = true) (hl : va_Nw (.methodLinkNest own index y host) s) (hc : Cond.code y bytes maxL rt ∈ ox_ws) (hini : Cond.initialized y.cls ∈ ox_ws) (hst : Cond.static y ∈ ox_ws) (hd : y.cls ≠ "java/lang/invoke/MethodHandle" ∧ y.cls ≠ "java/lang/invoke/VarHandle" ∧ (parseMethodDescriptor y.desc).map (fun d => d.parameters.length) = some n) (hR : rm.cells = 0 ∧ rm.slots = 0 ∧ rm.frames + 1 ≤ R.frames ∧ 8 + (maxL + 11) + rm.locals ≤ R.locals) : va_CN R s args own index y host bytes maxL rt (Cond.code y bytes maxL rt :: ox_ws) rm 0 0 n ∧ (Cond.static y).before args s = true ∧ True :=
  ⟨va_cnB n ht (ox_goodIn (fun w h => (List.mem_cons.mp h).elim (fun e => e ▸ hc) id)) rfl hR.1 hR.2.1 hl (ht _ hini) hd hR.2.2, ht _ hst, trivial⟩
end OXW
/-- the links between nest mates -/
def ox_nst (N : List (String × Nat × MethodName × String)) (U : State) : Prop := ∀ q ∈ N, va_Nw (.methodLinkNest q.1 q.2.1 q.2.2.1 q.2.2.2) U
theorem ox_nst.warm {N : List (String × Nat × MethodName × String)} {u U : State} (hW : u.WarmedH U.vm) (h : ox_nst N u) : ox_nst N U := fun q hq => va_Nw.warmM hW (h q hq)
theorem ox_nst.same {N : List (String × Nat × MethodName × String)} {u U : State} (hv : U.vm = u.vm) (h : ox_nst N u) : ox_nst N U := fun q hq => va_Nw.same rfl hv.symm (h q hq)
def oy_Text_byteOf : MethodName := ⟨"OneTreeTours$Text", "byteOf", "(JI)I"⟩
def oy_Text_countGood : MethodName := ⟨"OneTreeTours$Text", "countGood", "(J)I"⟩
def oy_Text_append : MethodName := ⟨"OneTreeTours$Text", "append", "(J)Z"⟩
def oy_T_write : MethodName := ⟨"OneTreeTours", "write", "(J)Z"⟩
def oy_T_wipe : MethodName := ⟨"OneTreeTours", "wipe", "()V"⟩
def oy_Reader_begin : MethodName := ⟨"OneTreeTours$Reader", "begin", "()V"⟩
def oy_Line_part : MethodName := ⟨"OneTreeTours$Line", "part", "(II)V"⟩
def oy_Line_digits : MethodName := ⟨"OneTreeTours$Line", "digits", "(II)I"⟩
def oy_Line_number : MethodName := ⟨"OneTreeTours$Line", "number", "(I)I"⟩
def oy_Reader_isPlace : MethodName := ⟨"OneTreeTours$Reader", "isPlace", "(I)Z"⟩
def oy_Reader_wholeRoot : MethodName := ⟨"OneTreeTours$Reader", "wholeRoot", "(I)I"⟩
def oy_Reader_apart : MethodName := ⟨"OneTreeTours$Reader", "apart", "(II)I"⟩
def oy_Line_stands : MethodName := ⟨"OneTreeTours$Line", "stands", "(ILjava/lang/String;)Z"⟩
def oy_Line_wordIs : MethodName := ⟨"OneTreeTours$Line", "wordIs", "(ILjava/lang/String;)Z"⟩
def oy_Reader_acceptsEnd : MethodName := ⟨"OneTreeTours$Reader", "acceptsEnd", "()Z"⟩
def oy_Reader_acceptsPlace : MethodName := ⟨"OneTreeTours$Reader", "acceptsPlace", "()Z"⟩
def oy_Reader_rows : MethodName := ⟨"OneTreeTours$Reader", "rows", "()I"⟩
def oy_Line_unsigned : MethodName := ⟨"OneTreeTours$Line", "unsigned", "(I)I"⟩
def oy_Reader_fits : MethodName := ⟨"OneTreeTours$Reader", "fits", "(I)Z"⟩
def oy_Reader_lastColumn : MethodName := ⟨"OneTreeTours$Reader", "lastColumn", "()I"⟩
def oy_Reader_firstColumn : MethodName := ⟨"OneTreeTours$Reader", "firstColumn", "()I"⟩
def oy_Reader_goToNextCell : MethodName := ⟨"OneTreeTours$Reader", "goToNextCell", "()V"⟩
def oy_Reader_acceptsDistances : MethodName := ⟨"OneTreeTours$Reader", "acceptsDistances", "()Z"⟩
def oy_Line_beginsWith : MethodName := ⟨"OneTreeTours$Line", "beginsWith", "(Ljava/lang/String;)Z"⟩
def oy_Reader_acceptsFormat : MethodName := ⟨"OneTreeTours$Reader", "acceptsFormat", "()Z"⟩
def oy_Reader_acceptsType : MethodName := ⟨"OneTreeTours$Reader", "acceptsType", "()Z"⟩
def oy_Reader_acceptsDimension : MethodName := ⟨"OneTreeTours$Reader", "acceptsDimension", "()Z"⟩
def oy_Reader_acceptsSection : MethodName := ⟨"OneTreeTours$Reader", "acceptsSection", "()Z"⟩
def oy_Reader_acceptsHead : MethodName := ⟨"OneTreeTours$Reader", "acceptsHead", "()Z"⟩
def oy_Reader_accepts : MethodName := ⟨"OneTreeTours$Reader", "accepts", "()Z"⟩
def oy_Reader_read : MethodName := ⟨"OneTreeTours$Reader", "read", "()I"⟩
def oy_Land_numberEdges : MethodName := ⟨"OneTreeTours$Land", "numberEdges", "()V"⟩
def oy_Land_settle : MethodName := ⟨"OneTreeTours$Land", "settle", "(I[I)V"⟩
def oy_T_turnRound : MethodName := ⟨"OneTreeTours", "turnRound", "([III)V"⟩
def oy_TourList_goToNextRow : MethodName := ⟨"OneTreeTours$TourList", "goToNextRow", "()Z"⟩
def oy_Land_edgeBit : MethodName := ⟨"OneTreeTours$Land", "edgeBit", "(II)I"⟩
def oy_Land_between : MethodName := ⟨"OneTreeTours$Land", "between", "(II)I"⟩
def oy_TourList_append : MethodName := ⟨"OneTreeTours$TourList", "append", "()V"⟩
def oy_TourList_listAll : MethodName := ⟨"OneTreeTours$TourList", "listAll", "()V"⟩
def oy_T_load : MethodName := ⟨"OneTreeTours", "load", "()I"⟩
def oy_T_size : MethodName := ⟨"OneTreeTours", "size", "()I"⟩
def oy_Land_isCity : MethodName := ⟨"OneTreeTours$Land", "isCity", "(I)Z"⟩
def oy_T_distance : MethodName := ⟨"OneTreeTours", "distance", "(II)I"⟩
def oy_Land_putMark : MethodName := ⟨"OneTreeTours$Land", "putMark", "(II)V"⟩
def oy_T_mark : MethodName := ⟨"OneTreeTours", "mark", "(III)Z"⟩
def oy_T_isPotential : MethodName := ⟨"OneTreeTours", "isPotential", "(I)Z"⟩
def oy_T_lift : MethodName := ⟨"OneTreeTours", "lift", "(II)Z"⟩
def oy_T_potential : MethodName := ⟨"OneTreeTours", "potential", "(I)I"⟩
def oy_OneTree_clear : MethodName := ⟨"OneTreeTours$OneTree", "clear", "()V"⟩
def oy_OneTree_weigh : MethodName := ⟨"OneTreeTours$OneTree", "weigh", "(I)I"⟩
def oy_OneTree_fits : MethodName := ⟨"OneTreeTours$OneTree", "fits", "(I)Z"⟩
def oy_OneTree_lightest : MethodName := ⟨"OneTreeTours$OneTree", "lightest", "(I)I"⟩
def oy_OneTree_join : MethodName := ⟨"OneTreeTours$OneTree", "join", "(II)V"⟩
def oy_OneTree_take : MethodName := ⟨"OneTreeTours$OneTree", "take", "(I)V"⟩
def oy_OneTree_grow : MethodName := ⟨"OneTreeTours$OneTree", "grow", "(II)Z"⟩
def oy_Land_sumOfPotentials : MethodName := ⟨"OneTreeTours$Land", "sumOfPotentials", "()I"⟩
def oy_OneTree_boundUnder : MethodName := ⟨"OneTreeTours$OneTree", "boundUnder", "(II)I"⟩
def oy_T_bound : MethodName := ⟨"OneTreeTours", "bound", "()I"⟩
def oy_T_degree : MethodName := ⟨"OneTreeTours", "degree", "(I)I"⟩
def oy_T_ascended : MethodName := ⟨"OneTreeTours", "ascended", "(II)I"⟩
def oy_T_ascend : MethodName := ⟨"OneTreeTours", "ascend", "(I)I"⟩
def oy_T_keepsTo : MethodName := ⟨"OneTreeTours", "keepsTo", "(III)Z"⟩
def oy_TourList_isAllowed : MethodName := ⟨"OneTreeTours$TourList", "isAllowed", "(I)Z"⟩
def oy_TourList_firstLeast : MethodName := ⟨"OneTreeTours$TourList", "firstLeast", "()I"⟩
def oy_Round_follow : MethodName := ⟨"OneTreeTours$Round", "follow", "(I)V"⟩
def oy_T_solve : MethodName := ⟨"OneTreeTours", "solve", "()I"⟩
def oy_TourList_countLeast : MethodName := ⟨"OneTreeTours$TourList", "countLeast", "()I"⟩
def oy_T_ties : MethodName := ⟨"OneTreeTours", "ties", "()I"⟩
def oy_Round_nearest : MethodName := ⟨"OneTreeTours$Round", "nearest", "(II)I"⟩
def oy_Round_goToNearest : MethodName := ⟨"OneTreeTours$Round", "goToNearest", "()V"⟩
def oy_Round_gain : MethodName := ⟨"OneTreeTours$Round", "gain", "(II)I"⟩
def oy_Round_turnOnce : MethodName := ⟨"OneTreeTours$Round", "turnOnce", "()Z"⟩
def oy_Round_shorten : MethodName := ⟨"OneTreeTours$Round", "shorten", "()V"⟩
def oy_Round_turnToOrder : MethodName := ⟨"OneTreeTours$Round", "turnToOrder", "()V"⟩
def oy_Round_measure : MethodName := ⟨"OneTreeTours$Round", "measure", "()I"⟩
def oy_T_improve : MethodName := ⟨"OneTreeTours", "improve", "()I"⟩
def oy_T_tour : MethodName := ⟨"OneTreeTours", "tour", "(I)I"⟩
def oy_Land_areEdges : MethodName := ⟨"OneTreeTours$Land", "areEdges", "(I)Z"⟩
def oy_Cases_append : MethodName := ⟨"OneTreeTours$Cases", "append", "(II)Z"⟩
def oy_T_add : MethodName := ⟨"OneTreeTours", "add", "(II)I"⟩
def oy_T_drop : MethodName := ⟨"OneTreeTours", "drop", "()V"⟩
def oy_Cases_anyHolds : MethodName := ⟨"OneTreeTours$Cases", "anyHolds", "(I)Z"⟩
def oy_T_covers : MethodName := ⟨"OneTreeTours", "covers", "()Z"⟩
def oy_T_caseBound : MethodName := ⟨"OneTreeTours", "caseBound", "(I)I"⟩
def oy_T_proves : MethodName := ⟨"OneTreeTours", "proves", "(I)Z"⟩
def oy_Mo_write : MethodName := ⟨"OneTreeToursModel", "write", "(J)Z"⟩
def oy_Mo_wipe : MethodName := ⟨"OneTreeToursModel", "wipe", "()V"⟩
def oy_Mo_apart : MethodName := ⟨"OneTreeToursModel", "apart", "(II)I"⟩
def oy_Mo_adopt : MethodName := ⟨"OneTreeToursModel", "adopt", "()V"⟩
def oy_Mo_due : MethodName := ⟨"OneTreeToursModel", "due", "()I"⟩
def oy_Mo_word : MethodName := ⟨"OneTreeToursModel", "word", "()Z"⟩
def oy_Mo_noMore : MethodName := ⟨"OneTreeToursModel", "noMore", "()Z"⟩
def oy_Mo_isNumber : MethodName := ⟨"OneTreeToursModel", "isNumber", "()Z"⟩
def oy_Mo_number : MethodName := ⟨"OneTreeToursModel", "number", "()I"⟩
def oy_Mo_place : MethodName := ⟨"OneTreeToursModel", "place", "()Z"⟩
def oy_Mo_pair : MethodName := ⟨"OneTreeToursModel", "pair", "(I)I"⟩
def oy_Mo_take : MethodName := ⟨"OneTreeToursModel", "take", "(I)Z"⟩
def oy_Mo_numbers : MethodName := ⟨"OneTreeToursModel", "numbers", "()Z"⟩
def oy_Mo_part : MethodName := ⟨"OneTreeToursModel", "part", "(II)J"⟩
def oy_Mo_letter : MethodName := ⟨"OneTreeToursModel", "letter", "(II)I"⟩
def oy_Mo_begins : MethodName := ⟨"OneTreeToursModel", "begins", "(II)I"⟩
def oy_Mo_is : MethodName := ⟨"OneTreeToursModel", "is", "(I)Z"⟩
def oy_Mo_choice : MethodName := ⟨"OneTreeToursModel", "choice", "(II)I"⟩
def oy_Mo_header : MethodName := ⟨"OneTreeToursModel", "header", "()Z"⟩
def oy_Mo_line : MethodName := ⟨"OneTreeToursModel", "line", "(I)Z"⟩
def oy_Mo_load : MethodName := ⟨"OneTreeToursModel", "load", "()I"⟩
def oy_Mo_size : MethodName := ⟨"OneTreeToursModel", "size", "()I"⟩
def oy_Mo_city : MethodName := ⟨"OneTreeToursModel", "city", "(I)Z"⟩
def oy_Mo_distance : MethodName := ⟨"OneTreeToursModel", "distance", "(II)I"⟩
def oy_Mo_mark : MethodName := ⟨"OneTreeToursModel", "mark", "(III)Z"⟩
def oy_Mo_lift : MethodName := ⟨"OneTreeToursModel", "lift", "(II)Z"⟩
def oy_Mo_potential : MethodName := ⟨"OneTreeToursModel", "potential", "(I)I"⟩
def oy_Mo_ownRules : MethodName := ⟨"OneTreeToursModel", "ownRules", "()V"⟩
def oy_Mo_weight : MethodName := ⟨"OneTreeToursModel", "weight", "(II)I"⟩
def oy_Mo_worse : MethodName := ⟨"OneTreeToursModel", "worse", "(II)Z"⟩
def oy_Mo_worst : MethodName := ⟨"OneTreeToursModel", "worst", "(ZI)I"⟩
def oy_Mo_count : MethodName := ⟨"OneTreeToursModel", "count", "(Z)I"⟩
def oy_Mo_joins : MethodName := ⟨"OneTreeToursModel", "joins", "(II)Z"⟩
def oy_Mo_tree : MethodName := ⟨"OneTreeToursModel", "tree", "()Z"⟩
def oy_Mo_boundNow : MethodName := ⟨"OneTreeToursModel", "boundNow", "()I"⟩
def oy_Mo_bound : MethodName := ⟨"OneTreeToursModel", "bound", "()I"⟩
def oy_Mo_meeting : MethodName := ⟨"OneTreeToursModel", "meeting", "(I)I"⟩
def oy_Mo_degree : MethodName := ⟨"OneTreeToursModel", "degree", "(I)I"⟩
def oy_Mo_ascend : MethodName := ⟨"OneTreeToursModel", "ascend", "(I)I"⟩
def oy_Mo_firstTour : MethodName := ⟨"OneTreeToursModel", "firstTour", "()V"⟩
def oy_Mo_next : MethodName := ⟨"OneTreeToursModel", "next", "(I)I"⟩
def oy_Mo_has : MethodName := ⟨"OneTreeToursModel", "has", "(II)Z"⟩
def oy_Mo_allowed : MethodName := ⟨"OneTreeToursModel", "allowed", "()Z"⟩
def oy_Mo_turn : MethodName := ⟨"OneTreeToursModel", "turn", "(II)V"⟩
def oy_Mo_nextTour : MethodName := ⟨"OneTreeToursModel", "nextTour", "()Z"⟩
def oy_Mo_length : MethodName := ⟨"OneTreeToursModel", "length", "()I"⟩
def oy_Mo_keep : MethodName := ⟨"OneTreeToursModel", "keep", "()V"⟩
def oy_Mo_solve : MethodName := ⟨"OneTreeToursModel", "solve", "()I"⟩
def oy_Mo_ties : MethodName := ⟨"OneTreeToursModel", "ties", "()I"⟩
def oy_Mo_nearest : MethodName := ⟨"OneTreeToursModel", "nearest", "()V"⟩
def oy_Mo_better : MethodName := ⟨"OneTreeToursModel", "better", "()Z"⟩
def oy_Mo_improve : MethodName := ⟨"OneTreeToursModel", "improve", "()I"⟩
def oy_Mo_tour : MethodName := ⟨"OneTreeToursModel", "tour", "(I)I"⟩
def oy_Mo_add : MethodName := ⟨"OneTreeToursModel", "add", "(II)I"⟩
def oy_Mo_drop : MethodName := ⟨"OneTreeToursModel", "drop", "()V"⟩
def oy_Mo_bit : MethodName := ⟨"OneTreeToursModel", "bit", "(II)I"⟩
def oy_Mo_inCase : MethodName := ⟨"OneTreeToursModel", "inCase", "(I)Z"⟩
def oy_Mo_covers : MethodName := ⟨"OneTreeToursModel", "covers", "()Z"⟩
def oy_Mo_caseBound : MethodName := ⟨"OneTreeToursModel", "caseBound", "(I)I"⟩
def oy_Mo_proves : MethodName := ⟨"OneTreeToursModel", "proves", "(I)Z"⟩
theorem oxk_b7 : (Int8.ofInt (7)).toInt32 = (7 : Int32) := by decide
theorem oxk_b8 : (Int8.ofInt (8)).toInt32 = (8 : Int32) := by decide
theorem oxk_b9 : (Int8.ofInt (9)).toInt32 = (9 : Int32) := by decide
theorem oxk_b10 : (Int8.ofInt (10)).toInt32 = (10 : Int32) := by decide
theorem oxk_b11 : (Int8.ofInt (11)).toInt32 = (11 : Int32) := by decide
theorem oxk_b12 : (Int8.ofInt (12)).toInt32 = (12 : Int32) := by decide
theorem oxk_b13 : (Int8.ofInt (13)).toInt32 = (13 : Int32) := by decide
theorem oxk_b23 : (Int8.ofInt (23)).toInt32 = (23 : Int32) := by decide
theorem oxk_b32 : (Int8.ofInt (32)).toInt32 = (32 : Int32) := by decide
theorem oxk_b45 : (Int8.ofInt (45)).toInt32 = (45 : Int32) := by decide
theorem oxk_b48 : (Int8.ofInt (48)).toInt32 = (48 : Int32) := by decide
theorem oxk_b57 : (Int8.ofInt (57)).toInt32 = (57 : Int32) := by decide
theorem oxk_b64 : (Int8.ofInt (64)).toInt32 = (64 : Int32) := by decide
theorem oxk_b126 : (Int8.ofInt (126)).toInt32 = (126 : Int32) := by decide
theorem oxk_im1 : Int32.ofInt (-1) = (-1 : Int32) := by decide
theorem oxk_i0 : Int32.ofInt (0) = (0 : Int32) := by decide
theorem oxk_i1 : Int32.ofInt (1) = (1 : Int32) := by decide
theorem oxk_i2 : Int32.ofInt (2) = (2 : Int32) := by decide
theorem oxk_i3 : Int32.ofInt (3) = (3 : Int32) := by decide
theorem oxk_i4 : Int32.ofInt (4) = (4 : Int32) := by decide
theorem oxk_i5 : Int32.ofInt (5) = (5 : Int32) := by decide
theorem oxk_sm10000 : (Int16.ofInt (-10000)).toInt32 = (-10000 : Int32) := by decide
theorem oxk_sm999 : (Int16.ofInt (-999)).toInt32 = (-999 : Int32) := by decide
theorem oxk_s255 : (Int16.ofInt (255)).toInt32 = (255 : Int32) := by decide
theorem oxk_s480 : (Int16.ofInt (480)).toInt32 = (480 : Int32) := by decide
theorem oxk_s999 : (Int16.ofInt (999)).toInt32 = (999 : Int32) := by decide
theorem oxk_s1000 : (Int16.ofInt (1000)).toInt32 = (1000 : Int32) := by decide
theorem oxk_s2048 : (Int16.ofInt (2048)).toInt32 = (2048 : Int32) := by decide
theorem oxk_s5040 : (Int16.ofInt (5040)).toInt32 = (5040 : Int32) := by decide
theorem ox_out14 {x : Int32} (n0 : ¬ x = (0 : Int32)) (n1 : ¬ x = (1 : Int32)) (n2 : ¬ x = (2 : Int32)) (n3 : ¬ x = (3 : Int32)) (n4 : ¬ x = (4 : Int32)) (n5 : ¬ x = (5 : Int32)) (n6 : ¬ x = (6 : Int32)) (n7 : ¬ x = (7 : Int32)) (n8 : ¬ x = (8 : Int32)) (n9 : ¬ x = (9 : Int32)) (n10 : ¬ x = (10 : Int32)) (n11 : ¬ x = (11 : Int32)) (n12 : ¬ x = (12 : Int32)) (n13 : ¬ x = (13 : Int32)) : x.toInt < 0 ∨ 13 < x.toInt := by
  apply Classical.byContradiction
  intro hc
  have h1 : 0 ≤ x.toInt ∧ x.toInt ≤ 13 := by omega
  have m0 : x.toInt ≠ 0 := fun h => n0 (Int32.toInt_inj.mp (h.trans (by decide)))
  have m1 : x.toInt ≠ 1 := fun h => n1 (Int32.toInt_inj.mp (h.trans (by decide)))
  have m2 : x.toInt ≠ 2 := fun h => n2 (Int32.toInt_inj.mp (h.trans (by decide)))
  have m3 : x.toInt ≠ 3 := fun h => n3 (Int32.toInt_inj.mp (h.trans (by decide)))
  have m4 : x.toInt ≠ 4 := fun h => n4 (Int32.toInt_inj.mp (h.trans (by decide)))
  have m5 : x.toInt ≠ 5 := fun h => n5 (Int32.toInt_inj.mp (h.trans (by decide)))
  have m6 : x.toInt ≠ 6 := fun h => n6 (Int32.toInt_inj.mp (h.trans (by decide)))
  have m7 : x.toInt ≠ 7 := fun h => n7 (Int32.toInt_inj.mp (h.trans (by decide)))
  have m8 : x.toInt ≠ 8 := fun h => n8 (Int32.toInt_inj.mp (h.trans (by decide)))
  have m9 : x.toInt ≠ 9 := fun h => n9 (Int32.toInt_inj.mp (h.trans (by decide)))
  have m10 : x.toInt ≠ 10 := fun h => n10 (Int32.toInt_inj.mp (h.trans (by decide)))
  have m11 : x.toInt ≠ 11 := fun h => n11 (Int32.toInt_inj.mp (h.trans (by decide)))
  have m12 : x.toInt ≠ 12 := fun h => n12 (Int32.toInt_inj.mp (h.trans (by decide)))
  have m13 : x.toInt ≠ 13 := fun h => n13 (Int32.toInt_inj.mp (h.trans (by decide)))
  omega
