theorem csL_25 : mmCS RL 25 yL_below cL_below 2 (some (.int)) 2 := ⟨(wl_t 787 (by decide +kernel) (by decide +kernel)), (wl_t 763 (by decide +kernel) (by decide +kernel)), (wl_t 0 (by decide +kernel) (by decide +kernel)), (wl_t 764 (by decide +kernel) (by decide +kernel)), rfl, rfl, ⟨by decide +kernel, by decide +kernel⟩, by decide +kernel⟩
theorem mnL_57 : mmMx RL 57 := ⟨(wl_t 797 (by decide +kernel) (by decide +kernel)), (wl_t 613 (by decide +kernel) (by decide +kernel)), (wl_t 13 (by decide +kernel) (by decide +kernel)), (wl_t 614 (by decide +kernel) (by decide +kernel))⟩
theorem cvL_96 : mmCV RL 96 6 yX6_cancel cX6_cancel 2 (some (.boolean)) 1 := ⟨TX6, 3, rfl, by decide, (wl_t 851 (by decide +kernel) (by decide +kernel)), (wl_t 852 (by decide +kernel) (by decide +kernel)), (wl_t 853 (by decide +kernel) (by decide +kernel)), (wl_t 1 (by decide +kernel) (by decide +kernel)), (wl_t 854 (by decide +kernel) (by decide +kernel)), rfl, rfl, ⟨by decide +kernel, by decide +kernel⟩, by decide +kernel⟩
theorem cvL_62 : mmCV RL 62 6 yX6_generator cX6_generator 2 (some (.int)) 1 := ⟨TX6, 3, rfl, by decide, (wl_t 798 (by decide +kernel) (by decide +kernel)), (wl_t 799 (by decide +kernel) (by decide +kernel)), (wl_t 800 (by decide +kernel) (by decide +kernel)), (wl_t 1 (by decide +kernel) (by decide +kernel)), (wl_t 801 (by decide +kernel) (by decide +kernel)), rfl, rfl, ⟨by decide +kernel, by decide +kernel⟩, by decide +kernel⟩
theorem cvL_65 : mmCV RL 65 6 yX6_start cX6_start 2 (some (.int)) 1 := ⟨TX6, 3, rfl, by decide, (wl_t 805 (by decide +kernel) (by decide +kernel)), (wl_t 806 (by decide +kernel) (by decide +kernel)), (wl_t 807 (by decide +kernel) (by decide +kernel)), (wl_t 1 (by decide +kernel) (by decide +kernel)), (wl_t 808 (by decide +kernel) (by decide +kernel)), rfl, rfl, ⟨by decide +kernel, by decide +kernel⟩, by decide +kernel⟩
theorem cvL_71 : mmCV RL 71 6 yX6_wouldGive cX6_wouldGive 3 (some (.int)) 2 := ⟨TX6, 3, rfl, by decide, (wl_t 810 (by decide +kernel) (by decide +kernel)), (wl_t 811 (by decide +kernel) (by decide +kernel)), (wl_t 812 (by decide +kernel) (by decide +kernel)), (wl_t 1 (by decide +kernel) (by decide +kernel)), (wl_t 813 (by decide +kernel) (by decide +kernel)), rfl, rfl, ⟨by decide +kernel, by decide +kernel⟩, by decide +kernel⟩
theorem cvL_74 : mmCV RL 74 6 yX6_resume cX6_resume 3 (some (.int)) 2 := ⟨TX6, 3, rfl, by decide, (wl_t 816 (by decide +kernel) (by decide +kernel)), (wl_t 817 (by decide +kernel) (by decide +kernel)), (wl_t 818 (by decide +kernel) (by decide +kernel)), (wl_t 1 (by decide +kernel) (by decide +kernel)), (wl_t 819 (by decide +kernel) (by decide +kernel)), rfl, rfl, ⟨by decide +kernel, by decide +kernel⟩, by decide +kernel⟩
theorem csL_77 : mmCS RL 77 yL_isGiven cL_isGiven 4 (some (.boolean)) 3 := ⟨(wl_t 821 (by decide +kernel) (by decide +kernel)), (wl_t 822 (by decide +kernel) (by decide +kernel)), (wl_t 0 (by decide +kernel) (by decide +kernel)), (wl_t 823 (by decide +kernel) (by decide +kernel)), rfl, rfl, ⟨by decide +kernel, by decide +kernel⟩, by decide +kernel⟩
theorem cvL_81 : mmCV RL 81 6 yX6_raise cX6_raise 3 (some (.int)) 2 := ⟨TX6, 3, rfl, by decide, (wl_t 824 (by decide +kernel) (by decide +kernel)), (wl_t 825 (by decide +kernel) (by decide +kernel)), (wl_t 826 (by decide +kernel) (by decide +kernel)), (wl_t 1 (by decide +kernel) (by decide +kernel)), (wl_t 827 (by decide +kernel) (by decide +kernel)), rfl, rfl, ⟨by decide +kernel, by decide +kernel⟩, by decide +kernel⟩
theorem cvL_84 : mmCV RL 84 6 yX6_wouldClose cX6_wouldClose 2 (some (.int)) 1 := ⟨TX6, 3, rfl, by decide, (wl_t 833 (by decide +kernel) (by decide +kernel)), (wl_t 645 (by decide +kernel) (by decide +kernel)), (wl_t 646 (by decide +kernel) (by decide +kernel)), (wl_t 1 (by decide +kernel) (by decide +kernel)), (wl_t 647 (by decide +kernel) (by decide +kernel)), rfl, rfl, ⟨by decide +kernel, by decide +kernel⟩, by decide +kernel⟩
theorem cvL_87 : mmCV RL 87 6 yX6_close cX6_close 2 (some (.int)) 1 := ⟨TX6, 3, rfl, by decide, (wl_t 834 (by decide +kernel) (by decide +kernel)), (wl_t 835 (by decide +kernel) (by decide +kernel)), (wl_t 836 (by decide +kernel) (by decide +kernel)), (wl_t 1 (by decide +kernel) (by decide +kernel)), (wl_t 837 (by decide +kernel) (by decide +kernel)), rfl, rfl, ⟨by decide +kernel, by decide +kernel⟩, by decide +kernel⟩
theorem cvL_90 : mmCV RL 90 6 yX6_run cX6_run 2 (some (.int)) 1 := ⟨TX6, 3, rfl, by decide, (wl_t 838 (by decide +kernel) (by decide +kernel)), (wl_t 839 (by decide +kernel) (by decide +kernel)), (wl_t 840 (by decide +kernel) (by decide +kernel)), (wl_t 1 (by decide +kernel) (by decide +kernel)), (wl_t 841 (by decide +kernel) (by decide +kernel)), rfl, rfl, ⟨by decide +kernel, by decide +kernel⟩, by decide +kernel⟩
theorem cvL_93 : mmCV RL 93 6 yX6_tick cX6_tick 4 (some (.int)) 1 := ⟨TX6, 3, rfl, by decide, (wl_t 842 (by decide +kernel) (by decide +kernel)), (wl_t 843 (by decide +kernel) (by decide +kernel)), (wl_t 844 (by decide +kernel) (by decide +kernel)), (wl_t 1 (by decide +kernel) (by decide +kernel)), (wl_t 845 (by decide +kernel) (by decide +kernel)), rfl, rfl, ⟨by decide +kernel, by decide +kernel⟩, by decide +kernel⟩
set_option maxRecDepth 100000 in
def bL_act_554 (h0 : Nat) (x1 : Int32) (x2 : Int32) (μ : MM) : Option (Int32 × MM) :=
  (fL_below x1 14 μ).bind fun y1 => if y1.1 ≤ (2 : Int32) then (some (0, y1.2)) else (if mK μ h0 = 7 then (fX6_many h0 1 y1.2).bind fun y3 => if y3.1 = 0 then if y3.2.1 = x2 then (some (1, y3.2.2)) else (some (0, y3.2.2)) else none else none)
set_option maxRecDepth 100000 in
def bL_act_581 (h0 : Nat) (x1 : Int32) (x2 : Int32) (x3 : Int32) (μ : MM) : Option (Int32 × MM) :=
  (fL_below x1 14 μ).bind fun y1 => if (3 : Int32) ≤ y1.1 then ((fL_below x1 14 y1.2).bind fun y3 => if y3.1 = (6 : Int32) then (if mK μ h0 = 7 then (fX6_of h0 x3 1 y3.2).bind fun y5 => if y5.1 = 0 then if y5.2.1 ≤ (2 : Int32) then (some (0, y5.2.2)) else (some (1, y5.2.2)) else none else none) else (some (0, y3.2))) else (if x2 = (24 : Int32) then (some (1, y1.2)) else ((fL_below x1 14 y1.2).bind fun y10 => if y10.1 = (6 : Int32) then (if mK μ h0 = 7 then (fX6_of h0 x3 1 y10.2).bind fun y12 => if y12.1 = 0 then if y12.2.1 ≤ (2 : Int32) then (some (0, y12.2.2)) else (some (1, y12.2.2)) else none else none) else (some (0, y10.2))))
set_option maxRecDepth 100000 in
def fL_act (h0 : Nat) (x1 : Int32) (μ : MM) : Option actR :=
  if mK μ h0 = 7 then (fX6_many h0 1 μ).bind fun y1 => if y1.1 = 0 then (fL_below (x1 >>> (4 &&& 31)) (jmax 1 y1.2.1) y1.2.2).bind fun y4 => (fL_below x1 14 y4.2).bind fun y5 => if y5.1 = 0 then ((fL_below (x1 >>> (4 &&& 31)) 5 y5.2).bind fun y149 => (fX6_generator h0 y149.1 y149.2).bind fun y150 => if y150.1 = 0 then (if y150.2.1 = y1.2.1 then ((fX6_of h0 y1.2.1 2 y150.2.2).bind fun y152 => if y152.1 = 0 then (if y152.2.1 = 0 then ((fX6_of h0 y1.2.1 1 y152.2.2).bind fun y154 => if y154.1 = 0 then (if y154.2.1 = 0 then (some (.inl (1, y154.2.2))) else (some (.inl (0, y154.2.2)))) else if y154.1 = 1 then some (.inr fun z => bL_act_554 h0 x1 y1.2.1 (sX y154.2.2 z)) else if y154.1 = 3 then some (.inr fun z => bL_act_581 h0 x1 y1.2.1 y4.1 (sX y154.2.2 z)) else none) else (some (.inl (0, y152.2.2)))) else if y152.1 = 1 then some (.inr fun z => bL_act_554 h0 x1 y1.2.1 (sX y152.2.2 z)) else if y152.1 = 3 then some (.inr fun z => bL_act_581 h0 x1 y1.2.1 y4.1 (sX y152.2.2 z)) else none) else (some (.inl (0, y150.2.2)))) else if y150.1 = 1 then some (.inr fun z => bL_act_554 h0 x1 y1.2.1 (sX y150.2.2 z)) else if y150.1 = 3 then some (.inr fun z => bL_act_581 h0 x1 y1.2.1 y4.1 (sX y150.2.2 z)) else none) else (if y5.1 = 1 ∨ y5.1 = 2 then ((fL_below (x1 >>> (4 &&& 31)) 5 y5.2).bind fun y169 => (fX6_start h0 y169.1 y169.2).bind fun y170 => if y170.1 = 0 then (if y170.2.1 = y1.2.1 then ((fX6_ofTask h0 y1.2.1 0 y170.2.2).bind fun y172 => if y172.1 = 0 then ((fX6_many h0 8 y172.2.2).bind fun y173 => if y173.1 = 0 then (if y172.2.1 = (y173.2.1 - 1) then (some (.inl (1, y173.2.2))) else (some (.inl (0, y173.2.2)))) else if y173.1 = 1 then some (.inr fun z => bL_act_554 h0 x1 y1.2.1 (sX y173.2.2 z)) else if y173.1 = 3 then some (.inr fun z => bL_act_581 h0 x1 y1.2.1 y4.1 (sX y173.2.2 z)) else none) else if y172.1 = 1 then some (.inr fun z => bL_act_554 h0 x1 y1.2.1 (sX y172.2.2 z)) else if y172.1 = 3 then some (.inr fun z => bL_act_581 h0 x1 y1.2.1 y4.1 (sX y172.2.2 z)) else none) else (some (.inl (0, y170.2.2)))) else if y170.1 = 1 then some (.inr fun z => bL_act_554 h0 x1 y1.2.1 (sX y170.2.2 z)) else if y170.1 = 3 then some (.inr fun z => bL_act_581 h0 x1 y1.2.1 y4.1 (sX y170.2.2 z)) else none) else (if y5.1 = 3 ∨ y5.1 = 4 ∨ y5.1 = 5 then ((fL_below (x1 >>> (6 &&& 31)) 99 y5.2).bind fun y188 => (fX6_wouldGive h0 y4.1 (y188.1 - 30) y188.2).bind fun y189 => if y189.1 = 0 then ((fX6_resume h0 y4.1 (y188.1 - 30) y189.2.2).bind fun y190 => if y190.1 = 0 then (if y190.2.1 = y189.2.1 then ((fL_isGiven h0 y4.1 y190.2.1 y190.2.2).bind fun y192 => if y192.1 = 0 then (some (.inl (0, y192.2))) else (some (.inl (1, y192.2)))) else (some (.inl (0, y190.2.2)))) else if y190.1 = 1 then some (.inr fun z => bL_act_554 h0 x1 y1.2.1 (sX y190.2.2 z)) else if y190.1 = 3 then some (.inr fun z => bL_act_581 h0 x1 y1.2.1 y4.1 (sX y190.2.2 z)) else none) else if y189.1 = 1 then some (.inr fun z => bL_act_554 h0 x1 y1.2.1 (sX y189.2.2 z)) else if y189.1 = 3 then some (.inr fun z => bL_act_581 h0 x1 y1.2.1 y4.1 (sX y189.2.2 z)) else none) else (if y5.1 = 6 then ((fL_below (x1 >>> (6 &&& 31)) 7 y5.2).bind fun y203 => (fX6_raise h0 y4.1 (1 + y203.1) y203.2).bind fun y204 => if y204.1 = 0 then ((fL_isGiven h0 y4.1 y204.2.1 y204.2.2).bind fun y205 => if y205.1 = 0 ∨ y205.1 = 1 then some (.inl (y205.1, y205.2)) else none) else if y204.1 = 1 then some (.inr fun z => bL_act_554 h0 x1 y1.2.1 (sX y204.2.2 z)) else if y204.1 = 3 then some (.inr fun z => bL_act_581 h0 x1 y1.2.1 y4.1 (sX y204.2.2 z)) else none) else (if y5.1 = 7 then ((fX6_wouldClose h0 y4.1 y5.2).bind fun y212 => if y212.1 = 0 then ((fX6_close h0 y4.1 y212.2.2).bind fun y213 => if y213.1 = 0 then (if y213.2.1 = y212.2.1 then ((fX6_of h0 y4.1 1 y213.2.2).bind fun y215 => if y215.1 = 0 then (if y215.2.1 = (1 : Int32) then (if y212.2.1 = (8 : Int32) then (some (.inl (1, y215.2.2))) else (some (.inl (0, y215.2.2)))) else ((fX6_of h0 y4.1 1 y215.2.2).bind fun y217 => if y217.1 = 0 then (if y217.2.1 = (3 : Int32) then (if y212.2.1 = 0 then (some (.inl (1, y217.2.2))) else (some (.inl (0, y217.2.2)))) else ((fX6_of h0 y4.1 4 y217.2.2).bind fun y219 => if y219.1 = 0 then (if y219.2.1 = y212.2.1 then (some (.inl (1, y219.2.2))) else (if y212.2.1 = 0 then (some (.inl (1, y219.2.2))) else (some (.inl (0, y219.2.2))))) else if y219.1 = 1 then some (.inr fun z => bL_act_554 h0 x1 y1.2.1 (sX y219.2.2 z)) else if y219.1 = 3 then some (.inr fun z => bL_act_581 h0 x1 y1.2.1 y4.1 (sX y219.2.2 z)) else none)) else if y217.1 = 1 then some (.inr fun z => bL_act_554 h0 x1 y1.2.1 (sX y217.2.2 z)) else if y217.1 = 3 then some (.inr fun z => bL_act_581 h0 x1 y1.2.1 y4.1 (sX y217.2.2 z)) else none)) else if y215.1 = 1 then some (.inr fun z => bL_act_554 h0 x1 y1.2.1 (sX y215.2.2 z)) else if y215.1 = 3 then some (.inr fun z => bL_act_581 h0 x1 y1.2.1 y4.1 (sX y215.2.2 z)) else none) else (some (.inl (0, y213.2.2)))) else if y213.1 = 1 then some (.inr fun z => bL_act_554 h0 x1 y1.2.1 (sX y213.2.2 z)) else if y213.1 = 3 then some (.inr fun z => bL_act_581 h0 x1 y1.2.1 y4.1 (sX y213.2.2 z)) else none) else if y212.1 = 1 then some (.inr fun z => bL_act_554 h0 x1 y1.2.1 (sX y212.2.2 z)) else if y212.1 = 3 then some (.inr fun z => bL_act_581 h0 x1 y1.2.1 y4.1 (sX y212.2.2 z)) else none) else (if y5.1 = 8 ∨ y5.1 = 9 ∨ y5.1 = 10 then ((fX6_many h0 11 y5.2).bind fun y245 => if y245.1 = 0 then ((fL_below (x1 >>> (4 &&& 31)) 12 y245.2.2).bind fun y246 => (fX6_run h0 (1 + y246.1) y246.2).bind fun y247 => if y247.1 = 0 then ((fX6_many h0 11 y247.2.2).bind fun y248 => if y248.1 = 0 then (if y248.2.1 = (y245.2.1 + y247.2.1) then ((fL_below (x1 >>> (4 &&& 31)) 12 y248.2.2).bind fun y250 => if (1 + y250.1) < y247.2.1 then (some (.inl (0, y250.2))) else ((fL_below (x1 >>> (4 &&& 31)) 12 y250.2).bind fun y252 => if y247.2.1 = (1 + y252.1) then (some (.inl (1, y252.2))) else ((fX6_many h0 8 y252.2).bind fun y254 => if y254.1 = 0 then (if y254.2.1 = 0 then (some (.inl (1, y254.2.2))) else (some (.inl (0, y254.2.2)))) else if y254.1 = 1 then some (.inr fun z => bL_act_554 h0 x1 y1.2.1 (sX y254.2.2 z)) else if y254.1 = 3 then some (.inr fun z => bL_act_581 h0 x1 y1.2.1 y4.1 (sX y254.2.2 z)) else none))) else (some (.inl (0, y248.2.2)))) else if y248.1 = 1 then some (.inr fun z => bL_act_554 h0 x1 y1.2.1 (sX y248.2.2 z)) else if y248.1 = 3 then some (.inr fun z => bL_act_581 h0 x1 y1.2.1 y4.1 (sX y248.2.2 z)) else none) else if y247.1 = 1 then some (.inr fun z => bL_act_554 h0 x1 y1.2.1 (sX y247.2.2 z)) else if y247.1 = 3 then some (.inr fun z => bL_act_581 h0 x1 y1.2.1 y4.1 (sX y247.2.2 z)) else none) else if y245.1 = 1 then some (.inr fun z => bL_act_554 h0 x1 y1.2.1 (sX y245.2.2 z)) else if y245.1 = 3 then some (.inr fun z => bL_act_581 h0 x1 y1.2.1 y4.1 (sX y245.2.2 z)) else none) else (if y5.1 = 11 then ((fX6_many h0 9 y5.2).bind fun y273 => if y273.1 = 0 then ((fX6_many h0 8 y273.2.2).bind fun y274 => if y274.1 = 0 then ((fL_below (x1 >>> (4 &&& 31)) 4 y274.2.2).bind fun y275 => (fX6_tick h0 (1 + y275.1) y275.2).bind fun y276 => if y276.1 = 0 then ((fX6_many h0 9 y276.2.2).bind fun y277 => if y277.1 = 0 then ((fL_below (x1 >>> (4 &&& 31)) 4 y277.2.2).bind fun y278 => if y277.2.1 = ((y273.2.1 + 1) + y278.1) then ((fX6_many h0 8 y278.2).bind fun y280 => if y280.1 = 0 then (if y280.2.1 = (y274.2.1 + y276.2.1) then (some (.inl (1, y280.2.2))) else (some (.inl (0, y280.2.2)))) else if y280.1 = 1 then some (.inr fun z => bL_act_554 h0 x1 y1.2.1 (sX y280.2.2 z)) else if y280.1 = 3 then some (.inr fun z => bL_act_581 h0 x1 y1.2.1 y4.1 (sX y280.2.2 z)) else none) else (some (.inl (0, y278.2)))) else if y277.1 = 1 then some (.inr fun z => bL_act_554 h0 x1 y1.2.1 (sX y277.2.2 z)) else if y277.1 = 3 then some (.inr fun z => bL_act_581 h0 x1 y1.2.1 y4.1 (sX y277.2.2 z)) else none) else if y276.1 = 1 then some (.inr fun z => bL_act_554 h0 x1 y1.2.1 (sX y276.2.2 z)) else if y276.1 = 3 then some (.inr fun z => bL_act_581 h0 x1 y1.2.1 y4.1 (sX y276.2.2 z)) else none) else if y274.1 = 1 then some (.inr fun z => bL_act_554 h0 x1 y1.2.1 (sX y274.2.2 z)) else if y274.1 = 3 then some (.inr fun z => bL_act_581 h0 x1 y1.2.1 y4.1 (sX y274.2.2 z)) else none) else if y273.1 = 1 then some (.inr fun z => bL_act_554 h0 x1 y1.2.1 (sX y273.2.2 z)) else if y273.1 = 3 then some (.inr fun z => bL_act_581 h0 x1 y1.2.1 y4.1 (sX y273.2.2 z)) else none) else ((fX6_of h0 y4.1 1 y5.2).bind fun y6 => if y6.1 = 0 then (if y6.2.1 ≤ (2 : Int32) then ((fX6_ofTask h0 y4.1 4 y6.2.2).bind fun y8 => if y8.1 = 0 then (if y8.2.1 = (1 : Int32) then ((fX6_cancel h0 y4.1 y8.2.2).bind fun y41 => if y41.1 = 0 then (if (0 : Int32) = 0 then (if (1 : Int32) = 0 then (if y41.2.1 = (1 : Int32) then (if (0 : Int32) = 0 then ((fX6_ofTask h0 y4.1 4 y41.2.2).bind fun y62 => if y62.1 = 0 then (if y62.2.1 = (1 : Int32) then (some (.inl (1, y62.2.2))) else (some (.inl (0, y62.2.2)))) else if y62.1 = 1 then some (.inr fun z => bL_act_554 h0 x1 y1.2.1 (sX y62.2.2 z)) else if y62.1 = 3 then some (.inr fun z => bL_act_581 h0 x1 y1.2.1 y4.1 (sX y62.2.2 z)) else none) else (some (.inl (1, y41.2.2)))) else (some (.inl (0, y41.2.2)))) else (if y41.2.1 = (0 : Int32) then (if (0 : Int32) = 0 then ((fX6_ofTask h0 y4.1 4 y41.2.2).bind fun y54 => if y54.1 = 0 then (if y54.2.1 = (1 : Int32) then (some (.inl (1, y54.2.2))) else (some (.inl (0, y54.2.2)))) else if y54.1 = 1 then some (.inr fun z => bL_act_554 h0 x1 y1.2.1 (sX y54.2.2 z)) else if y54.1 = 3 then some (.inr fun z => bL_act_581 h0 x1 y1.2.1 y4.1 (sX y54.2.2 z)) else none) else (some (.inl (1, y41.2.2)))) else (some (.inl (0, y41.2.2))))) else (if y41.2.1 = (0 : Int32) then (if (0 : Int32) = 0 then ((fX6_ofTask h0 y4.1 4 y41.2.2).bind fun y45 => if y45.1 = 0 then (if y45.2.1 = (1 : Int32) then (some (.inl (1, y45.2.2))) else (some (.inl (0, y45.2.2)))) else if y45.1 = 1 then some (.inr fun z => bL_act_554 h0 x1 y1.2.1 (sX y45.2.2 z)) else if y45.1 = 3 then some (.inr fun z => bL_act_581 h0 x1 y1.2.1 y4.1 (sX y45.2.2 z)) else none) else (some (.inl (1, y41.2.2)))) else (some (.inl (0, y41.2.2))))) else if y41.1 = 1 then some (.inr fun z => bL_act_554 h0 x1 y1.2.1 (sX y41.2.2 z)) else if y41.1 = 3 then some (.inr fun z => bL_act_581 h0 x1 y1.2.1 y4.1 (sX y41.2.2 z)) else none) else ((fX6_cancel h0 y4.1 y8.2.2).bind fun y10 => if y10.1 = 0 then (if (0 : Int32) = 0 then (if (0 : Int32) = 0 then (if y10.2.1 = (1 : Int32) then (if (0 : Int32) = 0 then ((fX6_ofTask h0 y4.1 4 y10.2.2).bind fun y31 => if y31.1 = 0 then (if y31.2.1 = (1 : Int32) then (some (.inl (1, y31.2.2))) else (some (.inl (0, y31.2.2)))) else if y31.1 = 1 then some (.inr fun z => bL_act_554 h0 x1 y1.2.1 (sX y31.2.2 z)) else if y31.1 = 3 then some (.inr fun z => bL_act_581 h0 x1 y1.2.1 y4.1 (sX y31.2.2 z)) else none) else (some (.inl (1, y10.2.2)))) else (some (.inl (0, y10.2.2)))) else (if y10.2.1 = (0 : Int32) then (if (0 : Int32) = 0 then ((fX6_ofTask h0 y4.1 4 y10.2.2).bind fun y23 => if y23.1 = 0 then (if y23.2.1 = (1 : Int32) then (some (.inl (1, y23.2.2))) else (some (.inl (0, y23.2.2)))) else if y23.1 = 1 then some (.inr fun z => bL_act_554 h0 x1 y1.2.1 (sX y23.2.2 z)) else if y23.1 = 3 then some (.inr fun z => bL_act_581 h0 x1 y1.2.1 y4.1 (sX y23.2.2 z)) else none) else (some (.inl (1, y10.2.2)))) else (some (.inl (0, y10.2.2))))) else (if y10.2.1 = (0 : Int32) then (if (0 : Int32) = 0 then ((fX6_ofTask h0 y4.1 4 y10.2.2).bind fun y14 => if y14.1 = 0 then (if y14.2.1 = (1 : Int32) then (some (.inl (1, y14.2.2))) else (some (.inl (0, y14.2.2)))) else if y14.1 = 1 then some (.inr fun z => bL_act_554 h0 x1 y1.2.1 (sX y14.2.2 z)) else if y14.1 = 3 then some (.inr fun z => bL_act_581 h0 x1 y1.2.1 y4.1 (sX y14.2.2 z)) else none) else (some (.inl (1, y10.2.2)))) else (some (.inl (0, y10.2.2))))) else if y10.1 = 1 then some (.inr fun z => bL_act_554 h0 x1 y1.2.1 (sX y10.2.2 z)) else if y10.1 = 3 then some (.inr fun z => bL_act_581 h0 x1 y1.2.1 y4.1 (sX y10.2.2 z)) else none)) else if y8.1 = 1 then some (.inr fun z => bL_act_554 h0 x1 y1.2.1 (sX y8.2.2 z)) else if y8.1 = 3 then some (.inr fun z => bL_act_581 h0 x1 y1.2.1 y4.1 (sX y8.2.2 z)) else none) else ((fX6_ofTask h0 y4.1 4 y6.2.2).bind fun y76 => if y76.1 = 0 then (if y76.2.1 = (1 : Int32) then ((fX6_cancel h0 y4.1 y76.2.2).bind fun y109 => if y109.1 = 0 then (if (1 : Int32) = 0 then (if (1 : Int32) = 0 then (if y109.2.1 = (1 : Int32) then (if (1 : Int32) = 0 then ((fX6_ofTask h0 y4.1 4 y109.2.2).bind fun y130 => if y130.1 = 0 then (if y130.2.1 = (1 : Int32) then (some (.inl (1, y130.2.2))) else (some (.inl (0, y130.2.2)))) else if y130.1 = 1 then some (.inr fun z => bL_act_554 h0 x1 y1.2.1 (sX y130.2.2 z)) else if y130.1 = 3 then some (.inr fun z => bL_act_581 h0 x1 y1.2.1 y4.1 (sX y130.2.2 z)) else none) else (some (.inl (1, y109.2.2)))) else (some (.inl (0, y109.2.2)))) else (if y109.2.1 = (0 : Int32) then (if (1 : Int32) = 0 then ((fX6_ofTask h0 y4.1 4 y109.2.2).bind fun y122 => if y122.1 = 0 then (if y122.2.1 = (1 : Int32) then (some (.inl (1, y122.2.2))) else (some (.inl (0, y122.2.2)))) else if y122.1 = 1 then some (.inr fun z => bL_act_554 h0 x1 y1.2.1 (sX y122.2.2 z)) else if y122.1 = 3 then some (.inr fun z => bL_act_581 h0 x1 y1.2.1 y4.1 (sX y122.2.2 z)) else none) else (some (.inl (1, y109.2.2)))) else (some (.inl (0, y109.2.2))))) else (if y109.2.1 = (0 : Int32) then (if (1 : Int32) = 0 then ((fX6_ofTask h0 y4.1 4 y109.2.2).bind fun y113 => if y113.1 = 0 then (if y113.2.1 = (1 : Int32) then (some (.inl (1, y113.2.2))) else (some (.inl (0, y113.2.2)))) else if y113.1 = 1 then some (.inr fun z => bL_act_554 h0 x1 y1.2.1 (sX y113.2.2 z)) else if y113.1 = 3 then some (.inr fun z => bL_act_581 h0 x1 y1.2.1 y4.1 (sX y113.2.2 z)) else none) else (some (.inl (1, y109.2.2)))) else (some (.inl (0, y109.2.2))))) else if y109.1 = 1 then some (.inr fun z => bL_act_554 h0 x1 y1.2.1 (sX y109.2.2 z)) else if y109.1 = 3 then some (.inr fun z => bL_act_581 h0 x1 y1.2.1 y4.1 (sX y109.2.2 z)) else none) else ((fX6_cancel h0 y4.1 y76.2.2).bind fun y78 => if y78.1 = 0 then (if (1 : Int32) = 0 then (if (0 : Int32) = 0 then (if y78.2.1 = (1 : Int32) then (if (1 : Int32) = 0 then ((fX6_ofTask h0 y4.1 4 y78.2.2).bind fun y99 => if y99.1 = 0 then (if y99.2.1 = (1 : Int32) then (some (.inl (1, y99.2.2))) else (some (.inl (0, y99.2.2)))) else if y99.1 = 1 then some (.inr fun z => bL_act_554 h0 x1 y1.2.1 (sX y99.2.2 z)) else if y99.1 = 3 then some (.inr fun z => bL_act_581 h0 x1 y1.2.1 y4.1 (sX y99.2.2 z)) else none) else (some (.inl (1, y78.2.2)))) else (some (.inl (0, y78.2.2)))) else (if y78.2.1 = (0 : Int32) then (if (1 : Int32) = 0 then ((fX6_ofTask h0 y4.1 4 y78.2.2).bind fun y91 => if y91.1 = 0 then (if y91.2.1 = (1 : Int32) then (some (.inl (1, y91.2.2))) else (some (.inl (0, y91.2.2)))) else if y91.1 = 1 then some (.inr fun z => bL_act_554 h0 x1 y1.2.1 (sX y91.2.2 z)) else if y91.1 = 3 then some (.inr fun z => bL_act_581 h0 x1 y1.2.1 y4.1 (sX y91.2.2 z)) else none) else (some (.inl (1, y78.2.2)))) else (some (.inl (0, y78.2.2))))) else (if y78.2.1 = (0 : Int32) then (if (1 : Int32) = 0 then ((fX6_ofTask h0 y4.1 4 y78.2.2).bind fun y82 => if y82.1 = 0 then (if y82.2.1 = (1 : Int32) then (some (.inl (1, y82.2.2))) else (some (.inl (0, y82.2.2)))) else if y82.1 = 1 then some (.inr fun z => bL_act_554 h0 x1 y1.2.1 (sX y82.2.2 z)) else if y82.1 = 3 then some (.inr fun z => bL_act_581 h0 x1 y1.2.1 y4.1 (sX y82.2.2 z)) else none) else (some (.inl (1, y78.2.2)))) else (some (.inl (0, y78.2.2))))) else if y78.1 = 1 then some (.inr fun z => bL_act_554 h0 x1 y1.2.1 (sX y78.2.2 z)) else if y78.1 = 3 then some (.inr fun z => bL_act_581 h0 x1 y1.2.1 y4.1 (sX y78.2.2 z)) else none)) else if y76.1 = 1 then some (.inr fun z => bL_act_554 h0 x1 y1.2.1 (sX y76.2.2 z)) else if y76.1 = 3 then some (.inr fun z => bL_act_581 h0 x1 y1.2.1 y4.1 (sX y76.2.2 z)) else none)) else if y6.1 = 1 then some (.inr fun z => bL_act_554 h0 x1 y1.2.1 (sX y6.2.2 z)) else if y6.1 = 3 then some (.inr fun z => bL_act_581 h0 x1 y1.2.1 y4.1 (sX y6.2.2 z)) else none))))))) else none else none
abbrev rmL_act : Room := { frames := 7, cells := 1, slots := 6, locals := 167 }
set_option maxRecDepth 100000 in
set_option maxHeartbeats 16000000 in
theorem wbL_act_554 {p : Program} {l : Launch} {e : Env} {s : State} {m : MethodId} {args : Array Value} {below : List Frame} {meth : Method} {c : Code} {G : mmG} {A : Nat → Prop} {res : Int32 × MM} (E0 : mmEnv p m c cL_act 15 s args RL G A meth (some (.boolean))) : ∀ (h0 : Nat) (x1 : Int32) (x2 : Int32) (μ : MM), bL_act_554 h0 x1 x2 μ = some res → mmGoalA p l e rmL_act s m args below meth c G A 1 6 1 6 554 15 [(0, rf h0), (1, .int x1), (2, .int x2)] μ (mmQ G A res.2 (some (.int res.1))) := by
  obtain ⟨S, hA, hr, hlocks⟩ := id E0
  intro h0 x1 x2 μ hf H locs ls hR hS hl
  have hK : mmKN μ μ := mmKN.rf
  unfold bL_act_554 at hf
  refine lv_iload_n S.1 S.2.1 dL_act_554 rfl (lv_at hl 1 rfl) ?_
  refine lv_bipush (v := 14) S.1 S.2.1 dL_act_555 (by decide) ?_
  obtain ⟨y1, hy1, hf⟩ := bd hf
  refine mm_callSi S hR hS hA (As := [.int x1, .int 14]) (rest := []) csL_25 (kL_below_c l G A hy1) rfl rfl ⟨Nat.le_of_ble_eq_true rfl, Nat.le_of_ble_eq_true rfl⟩ rfl hl.1 rfl (lv_room (by simp [rf_cat, int_cat, long_cat])) dL_act_557 ⟨Nat.le_of_ble_eq_true rfl, Nat.le_of_ble_eq_true rfl⟩ (fun H locs hR hS => ?_)
  have hK : mmKN μ y1.2 := hK.tr (kL_below_kn hy1)
  refine lv_iconst (v := 2) S.1 S.2.1 dL_act_560 (by decide) ?_
  refine lv_icmp_le (tgt := 577) S.1 S.2.1 dL_act_561 (by decide) (fun c2 => ?_) (fun c2 => ?_)
  · have hf := it_t hf c2
    refine lv_iconst (v := 0) S.1 S.2.1 dL_act_577 (by decide) ?_
    obtain rfl := Option.some.inj hf
    refine W.widen (k := 1) (n := 6) (Nat.le_of_ble_eq_true rfl) (Nat.le_of_ble_eq_true rfl) ?_
    exact mm_zret S hR hS hr hlocks (Or.inl rfl) dL_act_578
  · have hf := it_f hf c2
    refine mm_aload_n S dL_act_564 rfl (lv_at hl 0 rfl) ?_
    refine lv_iconst (v := 1) S.1 S.2.1 dL_act_565 (by decide) ?_
    obtain ⟨g5, hf⟩ := gd hf
    obtain ⟨y3, hy3, hf⟩ := bd hf
    obtain ⟨g4, hf⟩ := gd hf
    refine mm_callVi S hR hS hA (As := [.int 1]) (rest := []) cvL_39 (hK.k g5) (kX6_many_c l G A (hK.k g5) hy3 g4) rfl rfl ⟨Nat.le_of_ble_eq_true rfl, Nat.le_of_ble_eq_true rfl⟩ rfl hl.1 rfl (lv_room (by simp [rf_cat, int_cat, long_cat])) dL_act_566 ⟨Nat.le_of_ble_eq_true rfl, Nat.le_of_ble_eq_true rfl⟩ (fun H locs hR hS => ?_)
    have hK : mmKN μ y3.2.2 := hK.tr (kX6_many_kn hy3)
    refine lv_iload_n S.1 S.2.1 dL_act_569 rfl (lv_at hl 2 rfl) ?_
    refine lv_icmp_ne (tgt := 577) S.1 S.2.1 dL_act_570 (by decide) (fun c6 => ?_) (fun c6 => ?_)
    · have hf := it_f hf c6
      refine lv_iconst (v := 0) S.1 S.2.1 dL_act_577 (by decide) ?_
      obtain rfl := Option.some.inj hf
      refine W.widen (k := 1) (n := 6) (Nat.le_of_ble_eq_true rfl) (Nat.le_of_ble_eq_true rfl) ?_
      exact mm_zret S hR hS hr hlocks (Or.inl rfl) dL_act_578
    · have hf := it_t hf c6
      refine lv_iconst (v := 1) S.1 S.2.1 dL_act_573 (by decide) ?_
      refine lv_goto (tgt := 578) S.1 S.2.1 dL_act_574 (by decide) ?_
      obtain rfl := Option.some.inj hf
      refine W.widen (k := 1) (n := 6) (Nat.le_of_ble_eq_true rfl) (Nat.le_of_ble_eq_true rfl) ?_
      exact mm_zret S hR hS hr hlocks (Or.inr rfl) dL_act_578
set_option maxRecDepth 100000 in
set_option maxHeartbeats 16000000 in
theorem wbL_act_581 {p : Program} {l : Launch} {e : Env} {s : State} {m : MethodId} {args : Array Value} {below : List Frame} {meth : Method} {c : Code} {G : mmG} {A : Nat → Prop} {res : Int32 × MM} (E0 : mmEnv p m c cL_act 15 s args RL G A meth (some (.boolean))) : ∀ (h0 : Nat) (x1 : Int32) (x2 : Int32) (x3 : Int32) (μ : MM), bL_act_581 h0 x1 x2 x3 μ = some res → mmGoalA p l e rmL_act s m args below meth c G A 1 6 1 6 581 15 [(0, rf h0), (1, .int x1), (2, .int x2), (3, .int x3)] μ (mmQ G A res.2 (some (.int res.1))) := by
  obtain ⟨S, hA, hr, hlocks⟩ := id E0
  intro h0 x1 x2 x3 μ hf H locs ls hR hS hl
  have hK : mmKN μ μ := mmKN.rf
  unfold bL_act_581 at hf
  refine lv_iload_n S.1 S.2.1 dL_act_581 rfl (lv_at hl 1 rfl) ?_
  refine lv_bipush (v := 14) S.1 S.2.1 dL_act_582 (by decide) ?_
  obtain ⟨y1, hy1, hf⟩ := bd hf
  refine mm_callSi S hR hS hA (As := [.int x1, .int 14]) (rest := []) csL_25 (kL_below_c l G A hy1) rfl rfl ⟨Nat.le_of_ble_eq_true rfl, Nat.le_of_ble_eq_true rfl⟩ rfl hl.1 rfl (lv_room (by simp [rf_cat, int_cat, long_cat])) dL_act_584 ⟨Nat.le_of_ble_eq_true rfl, Nat.le_of_ble_eq_true rfl⟩ (fun H locs hR hS => ?_)
  have hK : mmKN μ y1.2 := hK.tr (kL_below_kn hy1)
  refine lv_iconst (v := 3) S.1 S.2.1 dL_act_587 (by decide) ?_
  refine lv_icmp_ge (tgt := 597) S.1 S.2.1 dL_act_588 (by decide) (fun c2 => ?_) (fun c2 => ?_)
  · have hf := it_t hf c2
    refine lv_iload_n S.1 S.2.1 dL_act_597 rfl (lv_at hl 1 rfl) ?_
    refine lv_bipush (v := 14) S.1 S.2.1 dL_act_598 (by decide) ?_
    obtain ⟨y3, hy3, hf⟩ := bd hf
    refine mm_callSi S hR hS hA (As := [.int x1, .int 14]) (rest := []) csL_25 (kL_below_c l G A hy3) rfl rfl ⟨Nat.le_of_ble_eq_true rfl, Nat.le_of_ble_eq_true rfl⟩ rfl hl.1 rfl (lv_room (by simp [rf_cat, int_cat, long_cat])) dL_act_600 ⟨Nat.le_of_ble_eq_true rfl, Nat.le_of_ble_eq_true rfl⟩ (fun H locs hR hS => ?_)
    have hK : mmKN μ y3.2 := hK.tr (kL_below_kn hy3)
    refine lv_bipush (v := 6) S.1 S.2.1 dL_act_603 (by decide) ?_
    refine lv_icmp_ne (tgt := 622) S.1 S.2.1 dL_act_605 (by decide) (fun c4 => ?_) (fun c4 => ?_)
    · have hf := it_f hf c4
      refine lv_iconst (v := 0) S.1 S.2.1 dL_act_622 (by decide) ?_
      obtain rfl := Option.some.inj hf
      refine W.widen (k := 1) (n := 6) (Nat.le_of_ble_eq_true rfl) (Nat.le_of_ble_eq_true rfl) ?_
      exact mm_zret S hR hS hr hlocks (Or.inl rfl) dL_act_623
    · have hf := it_t hf c4
      refine mm_aload_n S dL_act_608 rfl (lv_at hl 0 rfl) ?_
      refine lv_iload_n S.1 S.2.1 dL_act_609 rfl (lv_at hl 3 rfl) ?_
      refine lv_iconst (v := 1) S.1 S.2.1 dL_act_610 (by decide) ?_
      obtain ⟨g7, hf⟩ := gd hf
      obtain ⟨y5, hy5, hf⟩ := bd hf
      obtain ⟨g6, hf⟩ := gd hf
      refine mm_callVi S hR hS hA (As := [.int x3, .int 1]) (rest := []) cvL_43 (hK.k g7) (kX6_of_c l G A (hK.k g7) hy5 g6) rfl rfl ⟨Nat.le_of_ble_eq_true rfl, Nat.le_of_ble_eq_true rfl⟩ rfl hl.1 rfl (lv_room (by simp [rf_cat, int_cat, long_cat])) dL_act_611 ⟨Nat.le_of_ble_eq_true rfl, Nat.le_of_ble_eq_true rfl⟩ (fun H locs hR hS => ?_)
      have hK : mmKN μ y5.2.2 := hK.tr (kX6_of_kn hy5)
      refine lv_iconst (v := 2) S.1 S.2.1 dL_act_614 (by decide) ?_
      refine lv_icmp_le (tgt := 622) S.1 S.2.1 dL_act_615 (by decide) (fun c8 => ?_) (fun c8 => ?_)
      · have hf := it_t hf c8
        refine lv_iconst (v := 0) S.1 S.2.1 dL_act_622 (by decide) ?_
        obtain rfl := Option.some.inj hf
        refine W.widen (k := 1) (n := 6) (Nat.le_of_ble_eq_true rfl) (Nat.le_of_ble_eq_true rfl) ?_
        exact mm_zret S hR hS hr hlocks (Or.inl rfl) dL_act_623
      · have hf := it_f hf c8
        refine lv_iconst (v := 1) S.1 S.2.1 dL_act_618 (by decide) ?_
        refine lv_goto (tgt := 623) S.1 S.2.1 dL_act_619 (by decide) ?_
        obtain rfl := Option.some.inj hf
        refine W.widen (k := 1) (n := 6) (Nat.le_of_ble_eq_true rfl) (Nat.le_of_ble_eq_true rfl) ?_
        exact mm_zret S hR hS hr hlocks (Or.inr rfl) dL_act_623
  · have hf := it_f hf c2
    refine lv_iload_n S.1 S.2.1 dL_act_591 rfl (lv_at hl 2 rfl) ?_
    refine lv_bipush (v := 24) S.1 S.2.1 dL_act_592 (by decide) ?_
    refine lv_icmp_eq (tgt := 618) S.1 S.2.1 dL_act_594 (by decide) (fun c9 => ?_) (fun c9 => ?_)
    · have hf := it_t hf c9
      refine lv_iconst (v := 1) S.1 S.2.1 dL_act_618 (by decide) ?_
      refine lv_goto (tgt := 623) S.1 S.2.1 dL_act_619 (by decide) ?_
      obtain rfl := Option.some.inj hf
      refine W.widen (k := 1) (n := 6) (Nat.le_of_ble_eq_true rfl) (Nat.le_of_ble_eq_true rfl) ?_
      exact mm_zret S hR hS hr hlocks (Or.inr rfl) dL_act_623
    · have hf := it_f hf c9
      refine lv_iload_n S.1 S.2.1 dL_act_597 rfl (lv_at hl 1 rfl) ?_
      refine lv_bipush (v := 14) S.1 S.2.1 dL_act_598 (by decide) ?_
      obtain ⟨y10, hy10, hf⟩ := bd hf
      refine mm_callSi S hR hS hA (As := [.int x1, .int 14]) (rest := []) csL_25 (kL_below_c l G A hy10) rfl rfl ⟨Nat.le_of_ble_eq_true rfl, Nat.le_of_ble_eq_true rfl⟩ rfl hl.1 rfl (lv_room (by simp [rf_cat, int_cat, long_cat])) dL_act_600 ⟨Nat.le_of_ble_eq_true rfl, Nat.le_of_ble_eq_true rfl⟩ (fun H locs hR hS => ?_)
      have hK : mmKN μ y10.2 := hK.tr (kL_below_kn hy10)
      refine lv_bipush (v := 6) S.1 S.2.1 dL_act_603 (by decide) ?_
      refine lv_icmp_ne (tgt := 622) S.1 S.2.1 dL_act_605 (by decide) (fun c11 => ?_) (fun c11 => ?_)
      · have hf := it_f hf c11
        refine lv_iconst (v := 0) S.1 S.2.1 dL_act_622 (by decide) ?_
        obtain rfl := Option.some.inj hf
        refine W.widen (k := 1) (n := 6) (Nat.le_of_ble_eq_true rfl) (Nat.le_of_ble_eq_true rfl) ?_
        exact mm_zret S hR hS hr hlocks (Or.inl rfl) dL_act_623
      · have hf := it_t hf c11
        refine mm_aload_n S dL_act_608 rfl (lv_at hl 0 rfl) ?_
        refine lv_iload_n S.1 S.2.1 dL_act_609 rfl (lv_at hl 3 rfl) ?_
        refine lv_iconst (v := 1) S.1 S.2.1 dL_act_610 (by decide) ?_
        obtain ⟨g14, hf⟩ := gd hf
        obtain ⟨y12, hy12, hf⟩ := bd hf
        obtain ⟨g13, hf⟩ := gd hf
        refine mm_callVi S hR hS hA (As := [.int x3, .int 1]) (rest := []) cvL_43 (hK.k g14) (kX6_of_c l G A (hK.k g14) hy12 g13) rfl rfl ⟨Nat.le_of_ble_eq_true rfl, Nat.le_of_ble_eq_true rfl⟩ rfl hl.1 rfl (lv_room (by simp [rf_cat, int_cat, long_cat])) dL_act_611 ⟨Nat.le_of_ble_eq_true rfl, Nat.le_of_ble_eq_true rfl⟩ (fun H locs hR hS => ?_)
        have hK : mmKN μ y12.2.2 := hK.tr (kX6_of_kn hy12)
        refine lv_iconst (v := 2) S.1 S.2.1 dL_act_614 (by decide) ?_
        refine lv_icmp_le (tgt := 622) S.1 S.2.1 dL_act_615 (by decide) (fun c15 => ?_) (fun c15 => ?_)
        · have hf := it_t hf c15
          refine lv_iconst (v := 0) S.1 S.2.1 dL_act_622 (by decide) ?_
          obtain rfl := Option.some.inj hf
          refine W.widen (k := 1) (n := 6) (Nat.le_of_ble_eq_true rfl) (Nat.le_of_ble_eq_true rfl) ?_
          exact mm_zret S hR hS hr hlocks (Or.inl rfl) dL_act_623
        · have hf := it_f hf c15
          refine lv_iconst (v := 1) S.1 S.2.1 dL_act_618 (by decide) ?_
          refine lv_goto (tgt := 623) S.1 S.2.1 dL_act_619 (by decide) ?_
          obtain rfl := Option.some.inj hf
          refine W.widen (k := 1) (n := 6) (Nat.le_of_ble_eq_true rfl) (Nat.le_of_ble_eq_true rfl) ?_
          exact mm_zret S hR hS hr hlocks (Or.inr rfl) dL_act_623
set_option maxRecDepth 100000 in
set_option maxHeartbeats 16000000 in
theorem kL_act_c (l : Launch) (hl0 : l.stackTraces = false) (G : mmG) (A : Nat → Prop) {μ : MM} {res : actR} {h0 : Nat} {x1 : Int32} (hf : fL_act h0 x1 μ = some res) (hz : ∀ g, res = .inr g → ∀ z, mX μ ≤ z → ∃ r, g z = some r) : Met l yL_act [.codeWith yL_act cL_act 15 (some (.boolean)) hhAct] rmL_act (mmPa G A μ [rf h0, .int x1]) (mmQA G A μ res) 1 6 A := by
  refine mm_ofWT (by decide +kernel) ?_
  intro p e s m args below meth c s₁ B hml htab hv
  obtain ⟨rfl, hw, hA, hX, hN⟩ := hv
  have hl := lv_entry [rf h0, .int x1] (n := 15) (by simp [lg_sl, rf_cat, int_cat])
  rw [lg_entry_eq]
  generalize (lg_sl [rf h0, .int x1] ++ List.replicate (15 - (lg_sl [rf h0, .int x1]).length) Slot.unset).toArray = ls at hl ⊢
  have hl : lv_has ls 15 [(0, rf h0), (1, .int x1)] := by simpa [lv_args, rf_cat, int_cat] using hl
  have S : mmS p m c cL_act 15 s ([rf h0, .int x1] : List Value).toArray RL G := ⟨B.exec, B.bytes, hml, findClass_of_methodNamed B.named, fun w hw' => mmUse (List.mem_filter.mp hw').2 (hw.2.2 w hw'), hw.2.1⟩
  have hR := hw.1
  have hS : va_S A s.heap s.heap [] := va_S.rf
  have hr := B.returns
  have hlocks := B.notSynchronized
  have E0 : mmEnv p m c cL_act 15 s ([rf h0, .int x1] : List Value).toArray RL G A meth (some (.boolean)) := ⟨S, hA, hr, hlocks⟩
  have hK : mmKN μ μ := mmKN.rf
  change W p l e rmL_act s m ([rf h0, .int x1] : List Value).toArray below meth c s.heap [] 0 0 (MQ below (mmQA G A μ res) ([rf h0, .int x1] : List Value).toArray s 1 6 A) (F0 m 0 ls [])
  unfold fL_act at hf
  refine mm_aload_n S dL_act_0 rfl (lv_at hl 0 rfl) ?_
  refine lv_iconst (v := 1) S.1 S.2.1 dL_act_1 (by decide) ?_
  obtain ⟨g3, hf⟩ := gd hf
  obtain ⟨y1, hy1, hf⟩ := bd hf
  obtain ⟨g2, hf⟩ := gd hf
  refine mm_callVi S hR hS hA (As := [.int 1]) (rest := []) cvL_39 (hK.k g3) (kX6_many_c l G A (hK.k g3) hy1 g2) rfl rfl ⟨Nat.le_of_ble_eq_true rfl, Nat.le_of_ble_eq_true rfl⟩ rfl hl.1 rfl (lv_room (by simp [rf_cat, int_cat, long_cat])) dL_act_2 ⟨Nat.le_of_ble_eq_true rfl, Nat.le_of_ble_eq_true rfl⟩ (fun H locs hR hS => ?_)
  have hK : mmKN μ y1.2.2 := hK.tr (kX6_many_kn hy1)
  refine lv_istore_n (i := 2) (lv' := [(2, .int y1.2.1), (0, rf h0), (1, .int x1)]) S.1 S.2.1 dL_act_5 rfl hl (by decide) rfl (fun ls hl => ?_)
  refine lv_iload_n S.1 S.2.1 dL_act_6 rfl (lv_at hl 2 rfl) ?_
  refine lv_iconst (v := 4) S.1 S.2.1 dL_act_7 (by decide) ?_
  refine lv_ishr S.1 S.2.1 dL_act_8 ?_
  refine lv_iconst (v := 1) S.1 S.2.1 dL_act_9 (by decide) ?_
  refine lv_iload_n S.1 S.2.1 dL_act_10 rfl (lv_at hl 0 rfl) ?_
  refine mm_max S mnL_57 hl.1 (Nat.le_of_ble_eq_true rfl) (by simp [rf_cat, int_cat, long_cat]) ⟨Nat.le_of_ble_eq_true rfl, Nat.le_of_ble_eq_true rfl⟩ dL_act_11 ?_
  obtain ⟨y4, hy4, hf⟩ := bd hf
  refine mm_callSi S hR hS hA (As := [.int (x1 >>> (4 &&& 31)), .int (jmax 1 y1.2.1)]) (rest := []) csL_25 (kL_below_c l G A hy4) rfl rfl ⟨Nat.le_of_ble_eq_true rfl, Nat.le_of_ble_eq_true rfl⟩ rfl hl.1 rfl (lv_room (by simp [rf_cat, int_cat, long_cat])) dL_act_14 ⟨Nat.le_of_ble_eq_true rfl, Nat.le_of_ble_eq_true rfl⟩ (fun H locs hR hS => ?_)
  have hK : mmKN μ y4.2 := hK.tr (kL_below_kn hy4)
  refine lv_istore_n (i := 3) (lv' := [(3, .int y4.1), (2, .int y1.2.1), (0, rf h0), (1, .int x1)]) S.1 S.2.1 dL_act_17 rfl hl (by decide) rfl (fun ls hl => ?_)
  refine lv_iload_n S.1 S.2.1 dL_act_18 rfl (lv_at hl 3 rfl) ?_
  refine lv_bipush (v := 14) S.1 S.2.1 dL_act_19 (by decide) ?_
  obtain ⟨y5, hy5, hf⟩ := bd hf
  refine mm_callSi S hR hS hA (As := [.int x1, .int 14]) (rest := []) csL_25 (kL_below_c l G A hy5) rfl rfl ⟨Nat.le_of_ble_eq_true rfl, Nat.le_of_ble_eq_true rfl⟩ rfl hl.1 rfl (lv_room (by simp [rf_cat, int_cat, long_cat])) dL_act_21 ⟨Nat.le_of_ble_eq_true rfl, Nat.le_of_ble_eq_true rfl⟩ (fun H locs hR hS => ?_)
  have hK : mmKN μ y5.2 := hK.tr (kL_below_kn hy5)
  rcases it_or hf with ⟨c148, hf⟩ | ⟨c148, hf⟩
  · refine mm_swL (tgt := 88) (off := 64) S [0] dL_act_24 (by simpa using c148) (by decide) (by decide) ?_
    refine mm_aload_n S dL_act_88 rfl (lv_at hl 2 rfl) ?_
    refine lv_iload_n S.1 S.2.1 dL_act_89 rfl (lv_at hl 3 rfl) ?_
    refine lv_iconst (v := 4) S.1 S.2.1 dL_act_90 (by decide) ?_
    refine lv_ishr S.1 S.2.1 dL_act_91 ?_
    refine lv_iconst (v := 5) S.1 S.2.1 dL_act_92 (by decide) ?_
    obtain ⟨y149, hy149, hf⟩ := bd hf
    refine mm_callSi S hR hS hA (As := [.int (x1 >>> (4 &&& 31)), .int 5]) (rest := [rf h0]) csL_25 (kL_below_c l G A hy149) rfl rfl ⟨Nat.le_of_ble_eq_true rfl, Nat.le_of_ble_eq_true rfl⟩ rfl hl.1 rfl (lv_room (by simp [rf_cat, int_cat, long_cat])) dL_act_93 ⟨Nat.le_of_ble_eq_true rfl, Nat.le_of_ble_eq_true rfl⟩ (fun H locs hR hS => ?_)
    have hK : mmKN μ y149.2 := hK.tr (kL_below_kn hy149)
    obtain ⟨y150, hy150, hf⟩ := bd hf
    rcases it_or hf with ⟨c164, hf⟩ | ⟨c164, hf⟩
    · refine mm_callVi S hR hS hA (As := [.int y149.1]) (rest := []) cvL_62 (hK.k g3) (kX6_generator_c l G A (hK.k g3) hy150 c164) rfl rfl ⟨Nat.le_of_ble_eq_true rfl, Nat.le_of_ble_eq_true rfl⟩ rfl hl.1 rfl (lv_room (by simp [rf_cat, int_cat, long_cat])) dL_act_96 ⟨Nat.zero_le _, Nat.zero_le _⟩ (fun H locs hR hS => ?_)
      have hK : mmKN μ y150.2.2 := hK.tr (kX6_generator_kn hy150)
      refine lv_iload_n S.1 S.2.1 dL_act_99 rfl (lv_at hl 1 rfl) ?_
      refine lv_icmp_ne (tgt := 125) S.1 S.2.1 dL_act_100 (by decide) (fun c151 => ?_) (fun c151 => ?_)
      · have hf := it_f hf c151
        refine lv_iconst (v := 0) S.1 S.2.1 dL_act_125 (by decide) ?_
        obtain rfl := Option.some.inj hf
        refine W.mono9 (MQ.mono9 (fun oc t h => ⟨_, Or.inl rfl, h⟩)) ?_
        refine W.widen (k := 1) (n := 6) (Nat.le_of_ble_eq_true rfl) (Nat.le_of_ble_eq_true rfl) ?_
        exact mm_zret S hR hS hr hlocks (Or.inl rfl) dL_act_126
      · have hf := it_t hf c151
        refine mm_aload_n S dL_act_103 rfl (lv_at hl 2 rfl) ?_
        refine lv_iload_n S.1 S.2.1 dL_act_104 rfl (lv_at hl 1 rfl) ?_
        refine lv_iconst (v := 2) S.1 S.2.1 dL_act_105 (by decide) ?_
        obtain ⟨y152, hy152, hf⟩ := bd hf
        rcases it_or hf with ⟨c160, hf⟩ | ⟨c160, hf⟩
        · refine mm_callVi S hR hS hA (As := [.int y1.2.1, .int 2]) (rest := []) cvL_43 (hK.k g3) (kX6_of_c l G A (hK.k g3) hy152 c160) rfl rfl ⟨Nat.le_of_ble_eq_true rfl, Nat.le_of_ble_eq_true rfl⟩ rfl hl.1 rfl (lv_room (by simp [rf_cat, int_cat, long_cat])) dL_act_106 ⟨Nat.zero_le _, Nat.zero_le _⟩ (fun H locs hR hS => ?_)
          have hK : mmKN μ y152.2.2 := hK.tr (kX6_of_kn hy152)
          refine lv_if_ne (tgt := 125) S.1 S.2.1 dL_act_109 (by decide) (fun c153 => ?_) (fun c153 => ?_)
          · have hf := it_f hf c153
            refine lv_iconst (v := 0) S.1 S.2.1 dL_act_125 (by decide) ?_
            obtain rfl := Option.some.inj hf
            refine W.mono9 (MQ.mono9 (fun oc t h => ⟨_, Or.inl rfl, h⟩)) ?_
            refine W.widen (k := 1) (n := 6) (Nat.le_of_ble_eq_true rfl) (Nat.le_of_ble_eq_true rfl) ?_
            exact mm_zret S hR hS hr hlocks (Or.inl rfl) dL_act_126
          · have hf := it_t hf c153
            refine mm_aload_n S dL_act_112 rfl (lv_at hl 2 rfl) ?_
            refine lv_iload_n S.1 S.2.1 dL_act_113 rfl (lv_at hl 1 rfl) ?_
            refine lv_iconst (v := 1) S.1 S.2.1 dL_act_114 (by decide) ?_
            obtain ⟨y154, hy154, hf⟩ := bd hf
            rcases it_or hf with ⟨c156, hf⟩ | ⟨c156, hf⟩
            · refine mm_callVi S hR hS hA (As := [.int y1.2.1, .int 1]) (rest := []) cvL_43 (hK.k g3) (kX6_of_c l G A (hK.k g3) hy154 c156) rfl rfl ⟨Nat.le_of_ble_eq_true rfl, Nat.le_of_ble_eq_true rfl⟩ rfl hl.1 rfl (lv_room (by simp [rf_cat, int_cat, long_cat])) dL_act_115 ⟨Nat.zero_le _, Nat.zero_le _⟩ (fun H locs hR hS => ?_)
              have hK : mmKN μ y154.2.2 := hK.tr (kX6_of_kn hy154)
              refine lv_if_ne (tgt := 125) S.1 S.2.1 dL_act_118 (by decide) (fun c155 => ?_) (fun c155 => ?_)
              · have hf := it_f hf c155
                refine lv_iconst (v := 0) S.1 S.2.1 dL_act_125 (by decide) ?_
                obtain rfl := Option.some.inj hf
                refine W.mono9 (MQ.mono9 (fun oc t h => ⟨_, Or.inl rfl, h⟩)) ?_
                refine W.widen (k := 1) (n := 6) (Nat.le_of_ble_eq_true rfl) (Nat.le_of_ble_eq_true rfl) ?_
                exact mm_zret S hR hS hr hlocks (Or.inl rfl) dL_act_126
              · have hf := it_t hf c155
                refine lv_iconst (v := 1) S.1 S.2.1 dL_act_121 (by decide) ?_
                refine lv_goto (tgt := 126) S.1 S.2.1 dL_act_122 (by decide) ?_
                obtain rfl := Option.some.inj hf
                refine W.mono9 (MQ.mono9 (fun oc t h => ⟨_, Or.inl rfl, h⟩)) ?_
                refine W.widen (k := 1) (n := 6) (Nat.le_of_ble_eq_true rfl) (Nat.le_of_ble_eq_true rfl) ?_
                exact mm_zret S hR hS hr hlocks (Or.inr rfl) dL_act_126
            rcases it_or hf with ⟨c157, hf⟩ | ⟨c157, hf⟩
            · skip
              obtain rfl := Option.some.inj hf
              have hnx : ¬ y154.1 = 0 := c156
              have hM9 := kX6_of_x l hl0 G A (hK.k g3) hy154 hnx
              rw [show exn y154.1 = "java/lang/IndexOutOfBoundsException" from by rw [c157]; decide +kernel] at hM9
              refine mm_catchV S hR hS hA hX (As := [.int y1.2.1, .int 1]) (rest := []) cvL_43 (hK.k g3) hM9 rfl rfl ⟨Nat.le_of_ble_eq_true rfl, Nat.le_of_ble_eq_true rfl⟩ rfl hl.1 rfl (lv_room (by simp [rf_cat, int_cat, long_cat])) dL_act_115 ⟨Nat.le_of_ble_eq_true rfl, Nat.le_of_ble_eq_true rfl⟩ (tableOf (hhAct.take 0)) ⟨18, 126, 552, 100⟩ (tableOf (hhAct.drop 1)) (by rw [htab]; rfl) (fun z hz => Or.inl ((by decide : ∀ z ∈ (tableOf (hhAct.take 0)), covers z 115 = false) z hz)) rfl (by decide) wlI wcI (fun q9 H9 locs hR9 hS hz9 => ?_)
              have hK9 : mmKN μ y154.2.2 := hK.tr (kX6_of_kn hy154)
              obtain ⟨r9, hr9⟩ := hz _ rfl (H9.size + 1) (by have h1 := hR.1.2; rw [hK.2.2] at h1; omega)
              refine W.mono9 (MQ.mono9 (fun oc t h => ⟨r9, Or.inr ⟨_, _, rfl, by have h1 := hR.1.2; rw [hK.2.2] at h1; omega, hr9⟩, h⟩)) ?_
              refine lv_astore (i := 4) (lv' := [(4, .ref q9), (3, .int y4.1), (2, .int y1.2.1), (0, rf h0), (1, .int x1)]) S.1 S.2.1 dL_act_552 hl (by decide) (by simp [rf_cat, int_cat]) (fun ls hl => ?_)
              exact wbL_act_554 E0 h0 x1 y1.2.1 _ hr9 _ _ _ hR9 hS (lv_sub hl [3, 4, 2] rfl)
            obtain ⟨c158, hf⟩ := gd hf
            obtain rfl := Option.some.inj hf
            have hnx : ¬ y154.1 = 0 := c156
            have hM9 := kX6_of_x l hl0 G A (hK.k g3) hy154 hnx
            rw [show exn y154.1 = "java/lang/IllegalStateException" from by rw [c158]; decide +kernel] at hM9
            refine mm_catchV S hR hS hA hX (As := [.int y1.2.1, .int 1]) (rest := []) cvL_43 (hK.k g3) hM9 rfl rfl ⟨Nat.le_of_ble_eq_true rfl, Nat.le_of_ble_eq_true rfl⟩ rfl hl.1 rfl (lv_room (by simp [rf_cat, int_cat, long_cat])) dL_act_115 ⟨Nat.le_of_ble_eq_true rfl, Nat.le_of_ble_eq_true rfl⟩ (tableOf (hhAct.take 8)) ⟨18, 126, 579, 102⟩ (tableOf (hhAct.drop 9)) (by rw [htab]; rfl) (act_pass S hN (by decide)) rfl (by decide) wlS wcS (fun q9 H9 locs hR9 hS hz9 => ?_)
            have hK9 : mmKN μ y154.2.2 := hK.tr (kX6_of_kn hy154)
            obtain ⟨r9, hr9⟩ := hz _ rfl (H9.size + 1) (by have h1 := hR.1.2; rw [hK.2.2] at h1; omega)
            refine W.mono9 (MQ.mono9 (fun oc t h => ⟨r9, Or.inr ⟨_, _, rfl, by have h1 := hR.1.2; rw [hK.2.2] at h1; omega, hr9⟩, h⟩)) ?_
            refine lv_astore (i := 4) (lv' := [(4, .ref q9), (3, .int y4.1), (2, .int y1.2.1), (0, rf h0), (1, .int x1)]) S.1 S.2.1 dL_act_579 hl (by decide) (by simp [rf_cat, int_cat]) (fun ls hl => ?_)
            exact wbL_act_581 E0 h0 x1 y1.2.1 y4.1 _ hr9 _ _ _ hR9 hS (lv_sub hl [3, 4, 2, 1] rfl)
        rcases it_or hf with ⟨c161, hf⟩ | ⟨c161, hf⟩
        · skip
          obtain rfl := Option.some.inj hf
          have hnx : ¬ y152.1 = 0 := c160
          have hM9 := kX6_of_x l hl0 G A (hK.k g3) hy152 hnx
          rw [show exn y152.1 = "java/lang/IndexOutOfBoundsException" from by rw [c161]; decide +kernel] at hM9
          refine mm_catchV S hR hS hA hX (As := [.int y1.2.1, .int 2]) (rest := []) cvL_43 (hK.k g3) hM9 rfl rfl ⟨Nat.le_of_ble_eq_true rfl, Nat.le_of_ble_eq_true rfl⟩ rfl hl.1 rfl (lv_room (by simp [rf_cat, int_cat, long_cat])) dL_act_106 ⟨Nat.le_of_ble_eq_true rfl, Nat.le_of_ble_eq_true rfl⟩ (tableOf (hhAct.take 0)) ⟨18, 126, 552, 100⟩ (tableOf (hhAct.drop 1)) (by rw [htab]; rfl) (fun z hz => Or.inl ((by decide : ∀ z ∈ (tableOf (hhAct.take 0)), covers z 106 = false) z hz)) rfl (by decide) wlI wcI (fun q9 H9 locs hR9 hS hz9 => ?_)
          have hK9 : mmKN μ y152.2.2 := hK.tr (kX6_of_kn hy152)
          obtain ⟨r9, hr9⟩ := hz _ rfl (H9.size + 1) (by have h1 := hR.1.2; rw [hK.2.2] at h1; omega)
          refine W.mono9 (MQ.mono9 (fun oc t h => ⟨r9, Or.inr ⟨_, _, rfl, by have h1 := hR.1.2; rw [hK.2.2] at h1; omega, hr9⟩, h⟩)) ?_
          refine lv_astore (i := 4) (lv' := [(4, .ref q9), (3, .int y4.1), (2, .int y1.2.1), (0, rf h0), (1, .int x1)]) S.1 S.2.1 dL_act_552 hl (by decide) (by simp [rf_cat, int_cat]) (fun ls hl => ?_)
          exact wbL_act_554 E0 h0 x1 y1.2.1 _ hr9 _ _ _ hR9 hS (lv_sub hl [3, 4, 2] rfl)
        obtain ⟨c162, hf⟩ := gd hf
        obtain rfl := Option.some.inj hf
        have hnx : ¬ y152.1 = 0 := c160
        have hM9 := kX6_of_x l hl0 G A (hK.k g3) hy152 hnx
        rw [show exn y152.1 = "java/lang/IllegalStateException" from by rw [c162]; decide +kernel] at hM9
        refine mm_catchV S hR hS hA hX (As := [.int y1.2.1, .int 2]) (rest := []) cvL_43 (hK.k g3) hM9 rfl rfl ⟨Nat.le_of_ble_eq_true rfl, Nat.le_of_ble_eq_true rfl⟩ rfl hl.1 rfl (lv_room (by simp [rf_cat, int_cat, long_cat])) dL_act_106 ⟨Nat.le_of_ble_eq_true rfl, Nat.le_of_ble_eq_true rfl⟩ (tableOf (hhAct.take 8)) ⟨18, 126, 579, 102⟩ (tableOf (hhAct.drop 9)) (by rw [htab]; rfl) (act_pass S hN (by decide)) rfl (by decide) wlS wcS (fun q9 H9 locs hR9 hS hz9 => ?_)
        have hK9 : mmKN μ y152.2.2 := hK.tr (kX6_of_kn hy152)
        obtain ⟨r9, hr9⟩ := hz _ rfl (H9.size + 1) (by have h1 := hR.1.2; rw [hK.2.2] at h1; omega)
        refine W.mono9 (MQ.mono9 (fun oc t h => ⟨r9, Or.inr ⟨_, _, rfl, by have h1 := hR.1.2; rw [hK.2.2] at h1; omega, hr9⟩, h⟩)) ?_
        refine lv_astore (i := 4) (lv' := [(4, .ref q9), (3, .int y4.1), (2, .int y1.2.1), (0, rf h0), (1, .int x1)]) S.1 S.2.1 dL_act_579 hl (by decide) (by simp [rf_cat, int_cat]) (fun ls hl => ?_)
        exact wbL_act_581 E0 h0 x1 y1.2.1 y4.1 _ hr9 _ _ _ hR9 hS (lv_sub hl [3, 4, 2, 1] rfl)
    rcases it_or hf with ⟨c165, hf⟩ | ⟨c165, hf⟩
    · skip
      obtain rfl := Option.some.inj hf
      have hnx : ¬ y150.1 = 0 := c164
      have hM9 := kX6_generator_x l hl0 G A (hK.k g3) hy150 hnx
      rw [show exn y150.1 = "java/lang/IndexOutOfBoundsException" from by rw [c165]; decide +kernel] at hM9
      refine mm_catchV S hR hS hA hX (As := [.int y149.1]) (rest := []) cvL_62 (hK.k g3) hM9 rfl rfl ⟨Nat.le_of_ble_eq_true rfl, Nat.le_of_ble_eq_true rfl⟩ rfl hl.1 rfl (lv_room (by simp [rf_cat, int_cat, long_cat])) dL_act_96 ⟨Nat.le_of_ble_eq_true rfl, Nat.le_of_ble_eq_true rfl⟩ (tableOf (hhAct.take 0)) ⟨18, 126, 552, 100⟩ (tableOf (hhAct.drop 1)) (by rw [htab]; rfl) (fun z hz => Or.inl ((by decide : ∀ z ∈ (tableOf (hhAct.take 0)), covers z 96 = false) z hz)) rfl (by decide) wlI wcI (fun q9 H9 locs hR9 hS hz9 => ?_)
      have hK9 : mmKN μ y150.2.2 := hK.tr (kX6_generator_kn hy150)
      obtain ⟨r9, hr9⟩ := hz _ rfl (H9.size + 1) (by have h1 := hR.1.2; rw [hK.2.2] at h1; omega)
      refine W.mono9 (MQ.mono9 (fun oc t h => ⟨r9, Or.inr ⟨_, _, rfl, by have h1 := hR.1.2; rw [hK.2.2] at h1; omega, hr9⟩, h⟩)) ?_
      refine lv_astore (i := 4) (lv' := [(4, .ref q9), (3, .int y4.1), (2, .int y1.2.1), (0, rf h0), (1, .int x1)]) S.1 S.2.1 dL_act_552 hl (by decide) (by simp [rf_cat, int_cat]) (fun ls hl => ?_)
      exact wbL_act_554 E0 h0 x1 y1.2.1 _ hr9 _ _ _ hR9 hS (lv_sub hl [3, 4, 2] rfl)
    obtain ⟨c166, hf⟩ := gd hf
    obtain rfl := Option.some.inj hf
    have hnx : ¬ y150.1 = 0 := c164
    have hM9 := kX6_generator_x l hl0 G A (hK.k g3) hy150 hnx
    rw [show exn y150.1 = "java/lang/IllegalStateException" from by rw [c166]; decide +kernel] at hM9
    refine mm_catchV S hR hS hA hX (As := [.int y149.1]) (rest := []) cvL_62 (hK.k g3) hM9 rfl rfl ⟨Nat.le_of_ble_eq_true rfl, Nat.le_of_ble_eq_true rfl⟩ rfl hl.1 rfl (lv_room (by simp [rf_cat, int_cat, long_cat])) dL_act_96 ⟨Nat.le_of_ble_eq_true rfl, Nat.le_of_ble_eq_true rfl⟩ (tableOf (hhAct.take 8)) ⟨18, 126, 579, 102⟩ (tableOf (hhAct.drop 9)) (by rw [htab]; rfl) (act_pass S hN (by decide)) rfl (by decide) wlS wcS (fun q9 H9 locs hR9 hS hz9 => ?_)
    have hK9 : mmKN μ y150.2.2 := hK.tr (kX6_generator_kn hy150)
    obtain ⟨r9, hr9⟩ := hz _ rfl (H9.size + 1) (by have h1 := hR.1.2; rw [hK.2.2] at h1; omega)
    refine W.mono9 (MQ.mono9 (fun oc t h => ⟨r9, Or.inr ⟨_, _, rfl, by have h1 := hR.1.2; rw [hK.2.2] at h1; omega, hr9⟩, h⟩)) ?_
    refine lv_astore (i := 4) (lv' := [(4, .ref q9), (3, .int y4.1), (2, .int y1.2.1), (0, rf h0), (1, .int x1)]) S.1 S.2.1 dL_act_579 hl (by decide) (by simp [rf_cat, int_cat]) (fun ls hl => ?_)
    exact wbL_act_581 E0 h0 x1 y1.2.1 y4.1 _ hr9 _ _ _ hR9 hS (lv_sub hl [3, 4, 2, 1] rfl)
  rcases it_or hf with ⟨c168, hf⟩ | ⟨c168, hf⟩
  · refine mm_swL (tgt := 127) (off := 103) S [1, 2] dL_act_24 (by simpa using c168) (by decide) (by decide) ?_
    refine mm_aload_n S dL_act_127 rfl (lv_at hl 2 rfl) ?_
    refine lv_iload_n S.1 S.2.1 dL_act_128 rfl (lv_at hl 3 rfl) ?_
    refine lv_iconst (v := 4) S.1 S.2.1 dL_act_129 (by decide) ?_
    refine lv_ishr S.1 S.2.1 dL_act_130 ?_
    refine lv_iconst (v := 5) S.1 S.2.1 dL_act_131 (by decide) ?_
    obtain ⟨y169, hy169, hf⟩ := bd hf
    refine mm_callSi S hR hS hA (As := [.int (x1 >>> (4 &&& 31)), .int 5]) (rest := [rf h0]) csL_25 (kL_below_c l G A hy169) rfl rfl ⟨Nat.le_of_ble_eq_true rfl, Nat.le_of_ble_eq_true rfl⟩ rfl hl.1 rfl (lv_room (by simp [rf_cat, int_cat, long_cat])) dL_act_132 ⟨Nat.le_of_ble_eq_true rfl, Nat.le_of_ble_eq_true rfl⟩ (fun H locs hR hS => ?_)
    have hK : mmKN μ y169.2 := hK.tr (kL_below_kn hy169)
    obtain ⟨y170, hy170, hf⟩ := bd hf
    rcases it_or hf with ⟨c183, hf⟩ | ⟨c183, hf⟩
    · refine mm_callVi S hR hS hA (As := [.int y169.1]) (rest := []) cvL_65 (hK.k g3) (kX6_start_c l G A (hK.k g3) hy170 c183) rfl rfl ⟨Nat.le_of_ble_eq_true rfl, Nat.le_of_ble_eq_true rfl⟩ rfl hl.1 rfl (lv_room (by simp [rf_cat, int_cat, long_cat])) dL_act_135 ⟨Nat.zero_le _, Nat.zero_le _⟩ (fun H locs hR hS => ?_)
      have hK : mmKN μ y170.2.2 := hK.tr (kX6_start_kn hy170)
      refine lv_iload_n S.1 S.2.1 dL_act_138 rfl (lv_at hl 1 rfl) ?_
      refine lv_icmp_ne (tgt := 163) S.1 S.2.1 dL_act_139 (by decide) (fun c171 => ?_) (fun c171 => ?_)
      · have hf := it_f hf c171
        refine lv_iconst (v := 0) S.1 S.2.1 dL_act_163 (by decide) ?_
        obtain rfl := Option.some.inj hf
        refine W.mono9 (MQ.mono9 (fun oc t h => ⟨_, Or.inl rfl, h⟩)) ?_
        refine W.widen (k := 1) (n := 6) (Nat.le_of_ble_eq_true rfl) (Nat.le_of_ble_eq_true rfl) ?_
        exact mm_zret S hR hS hr hlocks (Or.inl rfl) dL_act_164
      · have hf := it_t hf c171
        refine mm_aload_n S dL_act_142 rfl (lv_at hl 2 rfl) ?_
        refine lv_iload_n S.1 S.2.1 dL_act_143 rfl (lv_at hl 1 rfl) ?_
        refine lv_iconst (v := 0) S.1 S.2.1 dL_act_144 (by decide) ?_
        obtain ⟨y172, hy172, hf⟩ := bd hf
        rcases it_or hf with ⟨c179, hf⟩ | ⟨c179, hf⟩
        · refine mm_callVi S hR hS hA (As := [.int y1.2.1, .int 0]) (rest := []) cvL_68 (hK.k g3) (kX6_ofTask_c l G A (hK.k g3) hy172 c179) rfl rfl ⟨Nat.le_of_ble_eq_true rfl, Nat.le_of_ble_eq_true rfl⟩ rfl hl.1 rfl (lv_room (by simp [rf_cat, int_cat, long_cat])) dL_act_145 ⟨Nat.zero_le _, Nat.zero_le _⟩ (fun H locs hR hS => ?_)
          have hK : mmKN μ y172.2.2 := hK.tr (kX6_ofTask_kn hy172)
          refine mm_aload_n S dL_act_148 rfl (lv_at hl 2 rfl) ?_
          refine lv_bipush (v := 8) S.1 S.2.1 dL_act_149 (by decide) ?_
          obtain ⟨y173, hy173, hf⟩ := bd hf
          rcases it_or hf with ⟨c175, hf⟩ | ⟨c175, hf⟩
          · refine mm_callVi S hR hS hA (As := [.int 8]) (rest := [.int y172.2.1]) cvL_39 (hK.k g3) (kX6_many_c l G A (hK.k g3) hy173 c175) rfl rfl ⟨Nat.le_of_ble_eq_true rfl, Nat.le_of_ble_eq_true rfl⟩ rfl hl.1 rfl (lv_room (by simp [rf_cat, int_cat, long_cat])) dL_act_151 ⟨Nat.zero_le _, Nat.zero_le _⟩ (fun H locs hR hS => ?_)
            have hK : mmKN μ y173.2.2 := hK.tr (kX6_many_kn hy173)
            refine lv_iconst (v := 1) S.1 S.2.1 dL_act_154 (by decide) ?_
            refine lv_isub S.1 S.2.1 dL_act_155 ?_
            refine lv_icmp_ne (tgt := 163) S.1 S.2.1 dL_act_156 (by decide) (fun c174 => ?_) (fun c174 => ?_)
            · have hf := it_f hf c174
              refine lv_iconst (v := 0) S.1 S.2.1 dL_act_163 (by decide) ?_
              obtain rfl := Option.some.inj hf
              refine W.mono9 (MQ.mono9 (fun oc t h => ⟨_, Or.inl rfl, h⟩)) ?_
              refine W.widen (k := 1) (n := 6) (Nat.le_of_ble_eq_true rfl) (Nat.le_of_ble_eq_true rfl) ?_
              exact mm_zret S hR hS hr hlocks (Or.inl rfl) dL_act_164
            · have hf := it_t hf c174
              refine lv_iconst (v := 1) S.1 S.2.1 dL_act_159 (by decide) ?_
              refine lv_goto (tgt := 164) S.1 S.2.1 dL_act_160 (by decide) ?_
              obtain rfl := Option.some.inj hf
              refine W.mono9 (MQ.mono9 (fun oc t h => ⟨_, Or.inl rfl, h⟩)) ?_
              refine W.widen (k := 1) (n := 6) (Nat.le_of_ble_eq_true rfl) (Nat.le_of_ble_eq_true rfl) ?_
              exact mm_zret S hR hS hr hlocks (Or.inr rfl) dL_act_164
          rcases it_or hf with ⟨c176, hf⟩ | ⟨c176, hf⟩
          · skip
            obtain rfl := Option.some.inj hf
            have hnx : ¬ y173.1 = 0 := c175
            have hM9 := kX6_many_x l hl0 G A (hK.k g3) hy173 hnx
            rw [show exn y173.1 = "java/lang/IndexOutOfBoundsException" from by rw [c176]; decide +kernel] at hM9
            refine mm_catchV S hR hS hA hX (As := [.int 8]) (rest := [.int y172.2.1]) cvL_39 (hK.k g3) hM9 rfl rfl ⟨Nat.le_of_ble_eq_true rfl, Nat.le_of_ble_eq_true rfl⟩ rfl hl.1 rfl (lv_room (by simp [rf_cat, int_cat, long_cat])) dL_act_151 ⟨Nat.le_of_ble_eq_true rfl, Nat.le_of_ble_eq_true rfl⟩ (tableOf (hhAct.take 1)) ⟨127, 164, 552, 100⟩ (tableOf (hhAct.drop 2)) (by rw [htab]; rfl) (fun z hz => Or.inl ((by decide : ∀ z ∈ (tableOf (hhAct.take 1)), covers z 151 = false) z hz)) rfl (by decide) wlI wcI (fun q9 H9 locs hR9 hS hz9 => ?_)
            have hK9 : mmKN μ y173.2.2 := hK.tr (kX6_many_kn hy173)
            obtain ⟨r9, hr9⟩ := hz _ rfl (H9.size + 1) (by have h1 := hR.1.2; rw [hK.2.2] at h1; omega)
            refine W.mono9 (MQ.mono9 (fun oc t h => ⟨r9, Or.inr ⟨_, _, rfl, by have h1 := hR.1.2; rw [hK.2.2] at h1; omega, hr9⟩, h⟩)) ?_
            refine lv_astore (i := 4) (lv' := [(4, .ref q9), (3, .int y4.1), (2, .int y1.2.1), (0, rf h0), (1, .int x1)]) S.1 S.2.1 dL_act_552 hl (by decide) (by simp [rf_cat, int_cat]) (fun ls hl => ?_)
            exact wbL_act_554 E0 h0 x1 y1.2.1 _ hr9 _ _ _ hR9 hS (lv_sub hl [3, 4, 2] rfl)
          obtain ⟨c177, hf⟩ := gd hf
          obtain rfl := Option.some.inj hf
          have hnx : ¬ y173.1 = 0 := c175
          have hM9 := kX6_many_x l hl0 G A (hK.k g3) hy173 hnx
          rw [show exn y173.1 = "java/lang/IllegalStateException" from by rw [c177]; decide +kernel] at hM9
          refine mm_catchV S hR hS hA hX (As := [.int 8]) (rest := [.int y172.2.1]) cvL_39 (hK.k g3) hM9 rfl rfl ⟨Nat.le_of_ble_eq_true rfl, Nat.le_of_ble_eq_true rfl⟩ rfl hl.1 rfl (lv_room (by simp [rf_cat, int_cat, long_cat])) dL_act_151 ⟨Nat.le_of_ble_eq_true rfl, Nat.le_of_ble_eq_true rfl⟩ (tableOf (hhAct.take 9)) ⟨127, 164, 579, 102⟩ (tableOf (hhAct.drop 10)) (by rw [htab]; rfl) (act_pass S hN (by decide)) rfl (by decide) wlS wcS (fun q9 H9 locs hR9 hS hz9 => ?_)
          have hK9 : mmKN μ y173.2.2 := hK.tr (kX6_many_kn hy173)
          obtain ⟨r9, hr9⟩ := hz _ rfl (H9.size + 1) (by have h1 := hR.1.2; rw [hK.2.2] at h1; omega)
          refine W.mono9 (MQ.mono9 (fun oc t h => ⟨r9, Or.inr ⟨_, _, rfl, by have h1 := hR.1.2; rw [hK.2.2] at h1; omega, hr9⟩, h⟩)) ?_
          refine lv_astore (i := 4) (lv' := [(4, .ref q9), (3, .int y4.1), (2, .int y1.2.1), (0, rf h0), (1, .int x1)]) S.1 S.2.1 dL_act_579 hl (by decide) (by simp [rf_cat, int_cat]) (fun ls hl => ?_)
          exact wbL_act_581 E0 h0 x1 y1.2.1 y4.1 _ hr9 _ _ _ hR9 hS (lv_sub hl [3, 4, 2, 1] rfl)
        rcases it_or hf with ⟨c180, hf⟩ | ⟨c180, hf⟩
        · skip
          obtain rfl := Option.some.inj hf
          have hnx : ¬ y172.1 = 0 := c179
          have hM9 := kX6_ofTask_x l hl0 G A (hK.k g3) hy172 hnx
          rw [show exn y172.1 = "java/lang/IndexOutOfBoundsException" from by rw [c180]; decide +kernel] at hM9
          refine mm_catchV S hR hS hA hX (As := [.int y1.2.1, .int 0]) (rest := []) cvL_68 (hK.k g3) hM9 rfl rfl ⟨Nat.le_of_ble_eq_true rfl, Nat.le_of_ble_eq_true rfl⟩ rfl hl.1 rfl (lv_room (by simp [rf_cat, int_cat, long_cat])) dL_act_145 ⟨Nat.le_of_ble_eq_true rfl, Nat.le_of_ble_eq_true rfl⟩ (tableOf (hhAct.take 1)) ⟨127, 164, 552, 100⟩ (tableOf (hhAct.drop 2)) (by rw [htab]; rfl) (fun z hz => Or.inl ((by decide : ∀ z ∈ (tableOf (hhAct.take 1)), covers z 145 = false) z hz)) rfl (by decide) wlI wcI (fun q9 H9 locs hR9 hS hz9 => ?_)
          have hK9 : mmKN μ y172.2.2 := hK.tr (kX6_ofTask_kn hy172)
          obtain ⟨r9, hr9⟩ := hz _ rfl (H9.size + 1) (by have h1 := hR.1.2; rw [hK.2.2] at h1; omega)
          refine W.mono9 (MQ.mono9 (fun oc t h => ⟨r9, Or.inr ⟨_, _, rfl, by have h1 := hR.1.2; rw [hK.2.2] at h1; omega, hr9⟩, h⟩)) ?_
          refine lv_astore (i := 4) (lv' := [(4, .ref q9), (3, .int y4.1), (2, .int y1.2.1), (0, rf h0), (1, .int x1)]) S.1 S.2.1 dL_act_552 hl (by decide) (by simp [rf_cat, int_cat]) (fun ls hl => ?_)
          exact wbL_act_554 E0 h0 x1 y1.2.1 _ hr9 _ _ _ hR9 hS (lv_sub hl [3, 4, 2] rfl)
        obtain ⟨c181, hf⟩ := gd hf
        obtain rfl := Option.some.inj hf
        have hnx : ¬ y172.1 = 0 := c179
        have hM9 := kX6_ofTask_x l hl0 G A (hK.k g3) hy172 hnx
        rw [show exn y172.1 = "java/lang/IllegalStateException" from by rw [c181]; decide +kernel] at hM9
        refine mm_catchV S hR hS hA hX (As := [.int y1.2.1, .int 0]) (rest := []) cvL_68 (hK.k g3) hM9 rfl rfl ⟨Nat.le_of_ble_eq_true rfl, Nat.le_of_ble_eq_true rfl⟩ rfl hl.1 rfl (lv_room (by simp [rf_cat, int_cat, long_cat])) dL_act_145 ⟨Nat.le_of_ble_eq_true rfl, Nat.le_of_ble_eq_true rfl⟩ (tableOf (hhAct.take 9)) ⟨127, 164, 579, 102⟩ (tableOf (hhAct.drop 10)) (by rw [htab]; rfl) (act_pass S hN (by decide)) rfl (by decide) wlS wcS (fun q9 H9 locs hR9 hS hz9 => ?_)
        have hK9 : mmKN μ y172.2.2 := hK.tr (kX6_ofTask_kn hy172)
        obtain ⟨r9, hr9⟩ := hz _ rfl (H9.size + 1) (by have h1 := hR.1.2; rw [hK.2.2] at h1; omega)
        refine W.mono9 (MQ.mono9 (fun oc t h => ⟨r9, Or.inr ⟨_, _, rfl, by have h1 := hR.1.2; rw [hK.2.2] at h1; omega, hr9⟩, h⟩)) ?_
        refine lv_astore (i := 4) (lv' := [(4, .ref q9), (3, .int y4.1), (2, .int y1.2.1), (0, rf h0), (1, .int x1)]) S.1 S.2.1 dL_act_579 hl (by decide) (by simp [rf_cat, int_cat]) (fun ls hl => ?_)
        exact wbL_act_581 E0 h0 x1 y1.2.1 y4.1 _ hr9 _ _ _ hR9 hS (lv_sub hl [3, 4, 2, 1] rfl)
    rcases it_or hf with ⟨c184, hf⟩ | ⟨c184, hf⟩
    · skip
      obtain rfl := Option.some.inj hf
      have hnx : ¬ y170.1 = 0 := c183
      have hM9 := kX6_start_x l hl0 G A (hK.k g3) hy170 hnx
      rw [show exn y170.1 = "java/lang/IndexOutOfBoundsException" from by rw [c184]; decide +kernel] at hM9
      refine mm_catchV S hR hS hA hX (As := [.int y169.1]) (rest := []) cvL_65 (hK.k g3) hM9 rfl rfl ⟨Nat.le_of_ble_eq_true rfl, Nat.le_of_ble_eq_true rfl⟩ rfl hl.1 rfl (lv_room (by simp [rf_cat, int_cat, long_cat])) dL_act_135 ⟨Nat.le_of_ble_eq_true rfl, Nat.le_of_ble_eq_true rfl⟩ (tableOf (hhAct.take 1)) ⟨127, 164, 552, 100⟩ (tableOf (hhAct.drop 2)) (by rw [htab]; rfl) (fun z hz => Or.inl ((by decide : ∀ z ∈ (tableOf (hhAct.take 1)), covers z 135 = false) z hz)) rfl (by decide) wlI wcI (fun q9 H9 locs hR9 hS hz9 => ?_)
      have hK9 : mmKN μ y170.2.2 := hK.tr (kX6_start_kn hy170)
      obtain ⟨r9, hr9⟩ := hz _ rfl (H9.size + 1) (by have h1 := hR.1.2; rw [hK.2.2] at h1; omega)
      refine W.mono9 (MQ.mono9 (fun oc t h => ⟨r9, Or.inr ⟨_, _, rfl, by have h1 := hR.1.2; rw [hK.2.2] at h1; omega, hr9⟩, h⟩)) ?_
      refine lv_astore (i := 4) (lv' := [(4, .ref q9), (3, .int y4.1), (2, .int y1.2.1), (0, rf h0), (1, .int x1)]) S.1 S.2.1 dL_act_552 hl (by decide) (by simp [rf_cat, int_cat]) (fun ls hl => ?_)
      exact wbL_act_554 E0 h0 x1 y1.2.1 _ hr9 _ _ _ hR9 hS (lv_sub hl [3, 4, 2] rfl)
    obtain ⟨c185, hf⟩ := gd hf
    obtain rfl := Option.some.inj hf
    have hnx : ¬ y170.1 = 0 := c183
    have hM9 := kX6_start_x l hl0 G A (hK.k g3) hy170 hnx
    rw [show exn y170.1 = "java/lang/IllegalStateException" from by rw [c185]; decide +kernel] at hM9
    refine mm_catchV S hR hS hA hX (As := [.int y169.1]) (rest := []) cvL_65 (hK.k g3) hM9 rfl rfl ⟨Nat.le_of_ble_eq_true rfl, Nat.le_of_ble_eq_true rfl⟩ rfl hl.1 rfl (lv_room (by simp [rf_cat, int_cat, long_cat])) dL_act_135 ⟨Nat.le_of_ble_eq_true rfl, Nat.le_of_ble_eq_true rfl⟩ (tableOf (hhAct.take 9)) ⟨127, 164, 579, 102⟩ (tableOf (hhAct.drop 10)) (by rw [htab]; rfl) (act_pass S hN (by decide)) rfl (by decide) wlS wcS (fun q9 H9 locs hR9 hS hz9 => ?_)
    have hK9 : mmKN μ y170.2.2 := hK.tr (kX6_start_kn hy170)
    obtain ⟨r9, hr9⟩ := hz _ rfl (H9.size + 1) (by have h1 := hR.1.2; rw [hK.2.2] at h1; omega)
    refine W.mono9 (MQ.mono9 (fun oc t h => ⟨r9, Or.inr ⟨_, _, rfl, by have h1 := hR.1.2; rw [hK.2.2] at h1; omega, hr9⟩, h⟩)) ?_
    refine lv_astore (i := 4) (lv' := [(4, .ref q9), (3, .int y4.1), (2, .int y1.2.1), (0, rf h0), (1, .int x1)]) S.1 S.2.1 dL_act_579 hl (by decide) (by simp [rf_cat, int_cat]) (fun ls hl => ?_)
    exact wbL_act_581 E0 h0 x1 y1.2.1 y4.1 _ hr9 _ _ _ hR9 hS (lv_sub hl [3, 4, 2, 1] rfl)
  rcases it_or hf with ⟨c187, hf⟩ | ⟨c187, hf⟩
  · refine mm_swL (tgt := 165) (off := 141) S [3, 4, 5] dL_act_24 (by simpa using c187) (by decide) (by decide) ?_
    refine lv_iload_n S.1 S.2.1 dL_act_165 rfl (lv_at hl 3 rfl) ?_
    refine lv_bipush (v := 6) S.1 S.2.1 dL_act_166 (by decide) ?_
    refine lv_ishr S.1 S.2.1 dL_act_168 ?_
    refine lv_bipush (v := 99) S.1 S.2.1 dL_act_169 (by decide) ?_
    obtain ⟨y188, hy188, hf⟩ := bd hf
    refine mm_callSi S hR hS hA (As := [.int (x1 >>> (6 &&& 31)), .int 99]) (rest := []) csL_25 (kL_below_c l G A hy188) rfl rfl ⟨Nat.le_of_ble_eq_true rfl, Nat.le_of_ble_eq_true rfl⟩ rfl hl.1 rfl (lv_room (by simp [rf_cat, int_cat, long_cat])) dL_act_171 ⟨Nat.le_of_ble_eq_true rfl, Nat.le_of_ble_eq_true rfl⟩ (fun H locs hR hS => ?_)
    have hK : mmKN μ y188.2 := hK.tr (kL_below_kn hy188)
    refine lv_bipush (v := 30) S.1 S.2.1 dL_act_174 (by decide) ?_
    refine lv_isub S.1 S.2.1 dL_act_176 ?_
    refine lv_istore (i := 4) (lv' := [(4, .int (y188.1 - 30)), (3, .int y4.1), (2, .int y1.2.1), (0, rf h0), (1, .int x1)]) S.1 S.2.1 dL_act_177 hl (by decide) rfl (fun ls hl => ?_)
    refine mm_aload_n S dL_act_179 rfl (lv_at hl 3 rfl) ?_
    refine lv_iload_n S.1 S.2.1 dL_act_180 rfl (lv_at hl 1 rfl) ?_
    refine lv_iload S.1 S.2.1 dL_act_181 (lv_at hl 0 rfl) ?_
    obtain ⟨y189, hy189, hf⟩ := bd hf
    rcases it_or hf with ⟨c198, hf⟩ | ⟨c198, hf⟩
    · refine mm_callVi S hR hS hA (As := [.int y4.1, .int (y188.1 - 30)]) (rest := []) cvL_71 (hK.k g3) (kX6_wouldGive_c l G A (hK.k g3) hy189 c198) rfl rfl ⟨Nat.le_of_ble_eq_true rfl, Nat.le_of_ble_eq_true rfl⟩ rfl hl.1 rfl (lv_room (by simp [rf_cat, int_cat, long_cat])) dL_act_183 ⟨Nat.zero_le _, Nat.zero_le _⟩ (fun H locs hR hS => ?_)
      have hK : mmKN μ y189.2.2 := hK.tr (kX6_wouldGive_kn hy189)
      refine lv_istore (i := 5) (lv' := [(5, .int y189.2.1), (4, .int (y188.1 - 30)), (3, .int y4.1), (2, .int y1.2.1), (0, rf h0), (1, .int x1)]) S.1 S.2.1 dL_act_186 hl (by decide) rfl (fun ls hl => ?_)
      refine mm_aload_n S dL_act_188 rfl (lv_at hl 4 rfl) ?_
      refine lv_iload_n S.1 S.2.1 dL_act_189 rfl (lv_at hl 2 rfl) ?_
      refine lv_iload S.1 S.2.1 dL_act_190 (lv_at hl 1 rfl) ?_
      obtain ⟨y190, hy190, hf⟩ := bd hf
      rcases it_or hf with ⟨c194, hf⟩ | ⟨c194, hf⟩
      · refine mm_callVi S hR hS hA (As := [.int y4.1, .int (y188.1 - 30)]) (rest := []) cvL_74 (hK.k g3) (kX6_resume_c l G A (hK.k g3) hy190 c194) rfl rfl ⟨Nat.le_of_ble_eq_true rfl, Nat.le_of_ble_eq_true rfl⟩ rfl hl.1 rfl (lv_room (by simp [rf_cat, int_cat, long_cat])) dL_act_192 ⟨Nat.zero_le _, Nat.zero_le _⟩ (fun H locs hR hS => ?_)
        have hK : mmKN μ y190.2.2 := hK.tr (kX6_resume_kn hy190)
        refine lv_istore (i := 6) (lv' := [(6, .int y190.2.1), (5, .int y189.2.1), (4, .int (y188.1 - 30)), (3, .int y4.1), (2, .int y1.2.1), (0, rf h0), (1, .int x1)]) S.1 S.2.1 dL_act_195 hl (by decide) rfl (fun ls hl => ?_)
        refine lv_iload S.1 S.2.1 dL_act_197 (lv_at hl 0 rfl) ?_
        refine lv_iload S.1 S.2.1 dL_act_199 (lv_at hl 1 rfl) ?_
        refine lv_icmp_ne (tgt := 218) S.1 S.2.1 dL_act_201 (by decide) (fun c191 => ?_) (fun c191 => ?_)
        · have hf := it_f hf c191
          refine lv_iconst (v := 0) S.1 S.2.1 dL_act_218 (by decide) ?_
          obtain rfl := Option.some.inj hf
          refine W.mono9 (MQ.mono9 (fun oc t h => ⟨_, Or.inl rfl, h⟩)) ?_
          refine W.widen (k := 1) (n := 6) (Nat.le_of_ble_eq_true rfl) (Nat.le_of_ble_eq_true rfl) ?_
          exact mm_zret S hR hS hr hlocks (Or.inl rfl) dL_act_219
        · have hf := it_t hf c191
          refine mm_aload_n S dL_act_204 rfl (lv_at hl 5 rfl) ?_
          refine lv_iload_n S.1 S.2.1 dL_act_205 rfl (lv_at hl 3 rfl) ?_
          refine lv_iload S.1 S.2.1 dL_act_206 (lv_at hl 0 rfl) ?_
          obtain ⟨y192, hy192, hf⟩ := bd hf
          refine mm_callSi S hR hS hA (As := [rf h0, .int y4.1, .int y190.2.1]) (rest := []) csL_77 (kL_isGiven_c l G A hy192) rfl rfl ⟨Nat.le_of_ble_eq_true rfl, Nat.le_of_ble_eq_true rfl⟩ rfl hl.1 rfl (lv_room (by simp [rf_cat, int_cat, long_cat])) dL_act_208 ⟨Nat.le_of_ble_eq_true rfl, Nat.le_of_ble_eq_true rfl⟩ (fun H locs hR hS => ?_)
          have hK : mmKN μ y192.2 := hK.tr (kL_isGiven_kn hy192)
          refine lv_if_eq (tgt := 218) S.1 S.2.1 dL_act_211 (by decide) (fun c193 => ?_) (fun c193 => ?_)
          · have hf := it_t hf c193
            refine lv_iconst (v := 0) S.1 S.2.1 dL_act_218 (by decide) ?_
            obtain rfl := Option.some.inj hf
            refine W.mono9 (MQ.mono9 (fun oc t h => ⟨_, Or.inl rfl, h⟩)) ?_
            refine W.widen (k := 1) (n := 6) (Nat.le_of_ble_eq_true rfl) (Nat.le_of_ble_eq_true rfl) ?_
            exact mm_zret S hR hS hr hlocks (Or.inl rfl) dL_act_219
          · have hf := it_f hf c193
            refine lv_iconst (v := 1) S.1 S.2.1 dL_act_214 (by decide) ?_
            refine lv_goto (tgt := 219) S.1 S.2.1 dL_act_215 (by decide) ?_
            obtain rfl := Option.some.inj hf
            refine W.mono9 (MQ.mono9 (fun oc t h => ⟨_, Or.inl rfl, h⟩)) ?_
            refine W.widen (k := 1) (n := 6) (Nat.le_of_ble_eq_true rfl) (Nat.le_of_ble_eq_true rfl) ?_
            exact mm_zret S hR hS hr hlocks (Or.inr rfl) dL_act_219
      rcases it_or hf with ⟨c195, hf⟩ | ⟨c195, hf⟩
      · skip
        obtain rfl := Option.some.inj hf
        have hnx : ¬ y190.1 = 0 := c194
        have hM9 := kX6_resume_x l hl0 G A (hK.k g3) hy190 hnx
        rw [show exn y190.1 = "java/lang/IndexOutOfBoundsException" from by rw [c195]; decide +kernel] at hM9
        refine mm_catchV S hR hS hA hX (As := [.int y4.1, .int (y188.1 - 30)]) (rest := []) cvL_74 (hK.k g3) hM9 rfl rfl ⟨Nat.le_of_ble_eq_true rfl, Nat.le_of_ble_eq_true rfl⟩ rfl hl.1 rfl (lv_room (by simp [rf_cat, int_cat, long_cat])) dL_act_192 ⟨Nat.le_of_ble_eq_true rfl, Nat.le_of_ble_eq_true rfl⟩ (tableOf (hhAct.take 2)) ⟨165, 219, 552, 100⟩ (tableOf (hhAct.drop 3)) (by rw [htab]; rfl) (fun z hz => Or.inl ((by decide : ∀ z ∈ (tableOf (hhAct.take 2)), covers z 192 = false) z hz)) rfl (by decide) wlI wcI (fun q9 H9 locs hR9 hS hz9 => ?_)
        have hK9 : mmKN μ y190.2.2 := hK.tr (kX6_resume_kn hy190)
        obtain ⟨r9, hr9⟩ := hz _ rfl (H9.size + 1) (by have h1 := hR.1.2; rw [hK.2.2] at h1; omega)
        refine W.mono9 (MQ.mono9 (fun oc t h => ⟨r9, Or.inr ⟨_, _, rfl, by have h1 := hR.1.2; rw [hK.2.2] at h1; omega, hr9⟩, h⟩)) ?_
        refine lv_astore (i := 4) (lv' := [(4, .ref q9), (5, .int y189.2.1), (3, .int y4.1), (2, .int y1.2.1), (0, rf h0), (1, .int x1)]) S.1 S.2.1 dL_act_552 hl (by decide) (by simp [rf_cat, int_cat]) (fun ls hl => ?_)
        exact wbL_act_554 E0 h0 x1 y1.2.1 _ hr9 _ _ _ hR9 hS (lv_sub hl [4, 5, 3] rfl)
      obtain ⟨c196, hf⟩ := gd hf
      obtain rfl := Option.some.inj hf
      have hnx : ¬ y190.1 = 0 := c194
      have hM9 := kX6_resume_x l hl0 G A (hK.k g3) hy190 hnx
      rw [show exn y190.1 = "java/lang/IllegalStateException" from by rw [c196]; decide +kernel] at hM9
      refine mm_catchV S hR hS hA hX (As := [.int y4.1, .int (y188.1 - 30)]) (rest := []) cvL_74 (hK.k g3) hM9 rfl rfl ⟨Nat.le_of_ble_eq_true rfl, Nat.le_of_ble_eq_true rfl⟩ rfl hl.1 rfl (lv_room (by simp [rf_cat, int_cat, long_cat])) dL_act_192 ⟨Nat.le_of_ble_eq_true rfl, Nat.le_of_ble_eq_true rfl⟩ (tableOf (hhAct.take 10)) ⟨165, 219, 579, 102⟩ (tableOf (hhAct.drop 11)) (by rw [htab]; rfl) (act_pass S hN (by decide)) rfl (by decide) wlS wcS (fun q9 H9 locs hR9 hS hz9 => ?_)
      have hK9 : mmKN μ y190.2.2 := hK.tr (kX6_resume_kn hy190)
      obtain ⟨r9, hr9⟩ := hz _ rfl (H9.size + 1) (by have h1 := hR.1.2; rw [hK.2.2] at h1; omega)
      refine W.mono9 (MQ.mono9 (fun oc t h => ⟨r9, Or.inr ⟨_, _, rfl, by have h1 := hR.1.2; rw [hK.2.2] at h1; omega, hr9⟩, h⟩)) ?_
      refine lv_astore (i := 4) (lv' := [(4, .ref q9), (5, .int y189.2.1), (3, .int y4.1), (2, .int y1.2.1), (0, rf h0), (1, .int x1)]) S.1 S.2.1 dL_act_579 hl (by decide) (by simp [rf_cat, int_cat]) (fun ls hl => ?_)
      exact wbL_act_581 E0 h0 x1 y1.2.1 y4.1 _ hr9 _ _ _ hR9 hS (lv_sub hl [4, 5, 3, 2] rfl)
    rcases it_or hf with ⟨c199, hf⟩ | ⟨c199, hf⟩
    · skip
      obtain rfl := Option.some.inj hf
      have hnx : ¬ y189.1 = 0 := c198
      have hM9 := kX6_wouldGive_x l hl0 G A (hK.k g3) hy189 hnx
      rw [show exn y189.1 = "java/lang/IndexOutOfBoundsException" from by rw [c199]; decide +kernel] at hM9
      refine mm_catchV S hR hS hA hX (As := [.int y4.1, .int (y188.1 - 30)]) (rest := []) cvL_71 (hK.k g3) hM9 rfl rfl ⟨Nat.le_of_ble_eq_true rfl, Nat.le_of_ble_eq_true rfl⟩ rfl hl.1 rfl (lv_room (by simp [rf_cat, int_cat, long_cat])) dL_act_183 ⟨Nat.le_of_ble_eq_true rfl, Nat.le_of_ble_eq_true rfl⟩ (tableOf (hhAct.take 2)) ⟨165, 219, 552, 100⟩ (tableOf (hhAct.drop 3)) (by rw [htab]; rfl) (fun z hz => Or.inl ((by decide : ∀ z ∈ (tableOf (hhAct.take 2)), covers z 183 = false) z hz)) rfl (by decide) wlI wcI (fun q9 H9 locs hR9 hS hz9 => ?_)
      have hK9 : mmKN μ y189.2.2 := hK.tr (kX6_wouldGive_kn hy189)
      obtain ⟨r9, hr9⟩ := hz _ rfl (H9.size + 1) (by have h1 := hR.1.2; rw [hK.2.2] at h1; omega)
      refine W.mono9 (MQ.mono9 (fun oc t h => ⟨r9, Or.inr ⟨_, _, rfl, by have h1 := hR.1.2; rw [hK.2.2] at h1; omega, hr9⟩, h⟩)) ?_
      refine lv_astore (i := 4) (lv' := [(4, .ref q9), (3, .int y4.1), (2, .int y1.2.1), (0, rf h0), (1, .int x1)]) S.1 S.2.1 dL_act_552 hl (by decide) (by simp [rf_cat, int_cat]) (fun ls hl => ?_)
      exact wbL_act_554 E0 h0 x1 y1.2.1 _ hr9 _ _ _ hR9 hS (lv_sub hl [3, 4, 2] rfl)
    obtain ⟨c200, hf⟩ := gd hf
    obtain rfl := Option.some.inj hf
    have hnx : ¬ y189.1 = 0 := c198
    have hM9 := kX6_wouldGive_x l hl0 G A (hK.k g3) hy189 hnx
    rw [show exn y189.1 = "java/lang/IllegalStateException" from by rw [c200]; decide +kernel] at hM9
    refine mm_catchV S hR hS hA hX (As := [.int y4.1, .int (y188.1 - 30)]) (rest := []) cvL_71 (hK.k g3) hM9 rfl rfl ⟨Nat.le_of_ble_eq_true rfl, Nat.le_of_ble_eq_true rfl⟩ rfl hl.1 rfl (lv_room (by simp [rf_cat, int_cat, long_cat])) dL_act_183 ⟨Nat.le_of_ble_eq_true rfl, Nat.le_of_ble_eq_true rfl⟩ (tableOf (hhAct.take 10)) ⟨165, 219, 579, 102⟩ (tableOf (hhAct.drop 11)) (by rw [htab]; rfl) (act_pass S hN (by decide)) rfl (by decide) wlS wcS (fun q9 H9 locs hR9 hS hz9 => ?_)
    have hK9 : mmKN μ y189.2.2 := hK.tr (kX6_wouldGive_kn hy189)
    obtain ⟨r9, hr9⟩ := hz _ rfl (H9.size + 1) (by have h1 := hR.1.2; rw [hK.2.2] at h1; omega)
    refine W.mono9 (MQ.mono9 (fun oc t h => ⟨r9, Or.inr ⟨_, _, rfl, by have h1 := hR.1.2; rw [hK.2.2] at h1; omega, hr9⟩, h⟩)) ?_
    refine lv_astore (i := 4) (lv' := [(4, .ref q9), (3, .int y4.1), (2, .int y1.2.1), (0, rf h0), (1, .int x1)]) S.1 S.2.1 dL_act_579 hl (by decide) (by simp [rf_cat, int_cat]) (fun ls hl => ?_)
    exact wbL_act_581 E0 h0 x1 y1.2.1 y4.1 _ hr9 _ _ _ hR9 hS (lv_sub hl [3, 4, 2, 1] rfl)
  rcases it_or hf with ⟨c202, hf⟩ | ⟨c202, hf⟩
  · refine mm_swL (tgt := 220) (off := 196) S [6] dL_act_24 (by simpa using c202) (by decide) (by decide) ?_
    refine mm_aload_n S dL_act_220 rfl (lv_at hl 2 rfl) ?_
    refine lv_iload_n S.1 S.2.1 dL_act_221 rfl (lv_at hl 0 rfl) ?_
    refine mm_aload_n S dL_act_222 rfl (lv_at hl 2 rfl) ?_
    refine lv_iload_n S.1 S.2.1 dL_act_223 rfl (lv_at hl 0 rfl) ?_
    refine lv_iconst (v := 1) S.1 S.2.1 dL_act_224 (by decide) ?_
    refine lv_iload_n S.1 S.2.1 dL_act_225 rfl (lv_at hl 3 rfl) ?_
    refine lv_bipush (v := 6) S.1 S.2.1 dL_act_226 (by decide) ?_
    refine lv_ishr S.1 S.2.1 dL_act_228 ?_
    refine lv_bipush (v := 7) S.1 S.2.1 dL_act_229 (by decide) ?_
    obtain ⟨y203, hy203, hf⟩ := bd hf
    refine mm_callSi S hR hS hA (As := [.int (x1 >>> (6 &&& 31)), .int 7]) (rest := [.int 1, .int y4.1, rf h0, .int y4.1, rf h0]) csL_25 (kL_below_c l G A hy203) rfl rfl ⟨Nat.le_of_ble_eq_true rfl, Nat.le_of_ble_eq_true rfl⟩ rfl hl.1 rfl (lv_room (by simp [rf_cat, int_cat, long_cat])) dL_act_231 ⟨Nat.le_of_ble_eq_true rfl, Nat.le_of_ble_eq_true rfl⟩ (fun H locs hR hS => ?_)
    have hK : mmKN μ y203.2 := hK.tr (kL_below_kn hy203)
    refine lv_iadd S.1 S.2.1 dL_act_234 ?_
    obtain ⟨y204, hy204, hf⟩ := bd hf
    rcases it_or hf with ⟨c207, hf⟩ | ⟨c207, hf⟩
    · refine mm_callVi S hR hS hA (As := [.int y4.1, .int (1 + y203.1)]) (rest := [.int y4.1, rf h0]) cvL_81 (hK.k g3) (kX6_raise_c l G A (hK.k g3) hy204 c207) rfl rfl ⟨Nat.le_of_ble_eq_true rfl, Nat.le_of_ble_eq_true rfl⟩ rfl hl.1 rfl (lv_room (by simp [rf_cat, int_cat, long_cat])) dL_act_235 ⟨Nat.zero_le _, Nat.zero_le _⟩ (fun H locs hR hS => ?_)
      have hK : mmKN μ y204.2.2 := hK.tr (kX6_raise_kn hy204)
      obtain ⟨y205, hy205, hf⟩ := bd hf
      refine mm_callSi S hR hS hA (As := [rf h0, .int y4.1, .int y204.2.1]) (rest := []) csL_77 (kL_isGiven_c l G A hy205) rfl rfl ⟨Nat.le_of_ble_eq_true rfl, Nat.le_of_ble_eq_true rfl⟩ rfl hl.1 rfl (lv_room (by simp [rf_cat, int_cat, long_cat])) dL_act_238 ⟨Nat.le_of_ble_eq_true rfl, Nat.le_of_ble_eq_true rfl⟩ (fun H locs hR hS => ?_)
      have hK : mmKN μ y205.2 := hK.tr (kL_isGiven_kn hy205)
      obtain ⟨g206, hf⟩ := gd hf
      obtain rfl := Option.some.inj hf
      refine W.mono9 (MQ.mono9 (fun oc t h => ⟨_, Or.inl rfl, h⟩)) ?_
      refine W.widen (k := 1) (n := 6) (Nat.le_of_ble_eq_true rfl) (Nat.le_of_ble_eq_true rfl) ?_
      exact mm_zret S hR hS hr hlocks g206 dL_act_241
    rcases it_or hf with ⟨c208, hf⟩ | ⟨c208, hf⟩
    · skip
      obtain rfl := Option.some.inj hf
      have hnx : ¬ y204.1 = 0 := c207
      have hM9 := kX6_raise_x l hl0 G A (hK.k g3) hy204 hnx
      rw [show exn y204.1 = "java/lang/IndexOutOfBoundsException" from by rw [c208]; decide +kernel] at hM9
      refine mm_catchV S hR hS hA hX (As := [.int y4.1, .int (1 + y203.1)]) (rest := [.int y4.1, rf h0]) cvL_81 (hK.k g3) hM9 rfl rfl ⟨Nat.le_of_ble_eq_true rfl, Nat.le_of_ble_eq_true rfl⟩ rfl hl.1 rfl (lv_room (by simp [rf_cat, int_cat, long_cat])) dL_act_235 ⟨Nat.le_of_ble_eq_true rfl, Nat.le_of_ble_eq_true rfl⟩ (tableOf (hhAct.take 3)) ⟨220, 241, 552, 100⟩ (tableOf (hhAct.drop 4)) (by rw [htab]; rfl) (fun z hz => Or.inl ((by decide : ∀ z ∈ (tableOf (hhAct.take 3)), covers z 235 = false) z hz)) rfl (by decide) wlI wcI (fun q9 H9 locs hR9 hS hz9 => ?_)
      have hK9 : mmKN μ y204.2.2 := hK.tr (kX6_raise_kn hy204)
      obtain ⟨r9, hr9⟩ := hz _ rfl (H9.size + 1) (by have h1 := hR.1.2; rw [hK.2.2] at h1; omega)
      refine W.mono9 (MQ.mono9 (fun oc t h => ⟨r9, Or.inr ⟨_, _, rfl, by have h1 := hR.1.2; rw [hK.2.2] at h1; omega, hr9⟩, h⟩)) ?_
      refine lv_astore (i := 4) (lv' := [(4, .ref q9), (3, .int y4.1), (2, .int y1.2.1), (0, rf h0), (1, .int x1)]) S.1 S.2.1 dL_act_552 hl (by decide) (by simp [rf_cat, int_cat]) (fun ls hl => ?_)
      exact wbL_act_554 E0 h0 x1 y1.2.1 _ hr9 _ _ _ hR9 hS (lv_sub hl [3, 4, 2] rfl)
    obtain ⟨c209, hf⟩ := gd hf
    obtain rfl := Option.some.inj hf
    have hnx : ¬ y204.1 = 0 := c207
    have hM9 := kX6_raise_x l hl0 G A (hK.k g3) hy204 hnx
    rw [show exn y204.1 = "java/lang/IllegalStateException" from by rw [c209]; decide +kernel] at hM9
    refine mm_catchV S hR hS hA hX (As := [.int y4.1, .int (1 + y203.1)]) (rest := [.int y4.1, rf h0]) cvL_81 (hK.k g3) hM9 rfl rfl ⟨Nat.le_of_ble_eq_true rfl, Nat.le_of_ble_eq_true rfl⟩ rfl hl.1 rfl (lv_room (by simp [rf_cat, int_cat, long_cat])) dL_act_235 ⟨Nat.le_of_ble_eq_true rfl, Nat.le_of_ble_eq_true rfl⟩ (tableOf (hhAct.take 11)) ⟨220, 241, 579, 102⟩ (tableOf (hhAct.drop 12)) (by rw [htab]; rfl) (act_pass S hN (by decide)) rfl (by decide) wlS wcS (fun q9 H9 locs hR9 hS hz9 => ?_)
    have hK9 : mmKN μ y204.2.2 := hK.tr (kX6_raise_kn hy204)
    obtain ⟨r9, hr9⟩ := hz _ rfl (H9.size + 1) (by have h1 := hR.1.2; rw [hK.2.2] at h1; omega)
    refine W.mono9 (MQ.mono9 (fun oc t h => ⟨r9, Or.inr ⟨_, _, rfl, by have h1 := hR.1.2; rw [hK.2.2] at h1; omega, hr9⟩, h⟩)) ?_
    refine lv_astore (i := 4) (lv' := [(4, .ref q9), (3, .int y4.1), (2, .int y1.2.1), (0, rf h0), (1, .int x1)]) S.1 S.2.1 dL_act_579 hl (by decide) (by simp [rf_cat, int_cat]) (fun ls hl => ?_)
    exact wbL_act_581 E0 h0 x1 y1.2.1 y4.1 _ hr9 _ _ _ hR9 hS (lv_sub hl [3, 4, 2, 1] rfl)
  rcases it_or hf with ⟨c211, hf⟩ | ⟨c211, hf⟩
  · refine mm_swL (tgt := 242) (off := 218) S [7] dL_act_24 (by simpa using c211) (by decide) (by decide) ?_
    refine mm_aload_n S dL_act_242 rfl (lv_at hl 2 rfl) ?_
    refine lv_iload_n S.1 S.2.1 dL_act_243 rfl (lv_at hl 0 rfl) ?_
    obtain ⟨y212, hy212, hf⟩ := bd hf
    rcases it_or hf with ⟨c240, hf⟩ | ⟨c240, hf⟩
    · refine mm_callVi S hR hS hA (As := [.int y4.1]) (rest := []) cvL_84 (hK.k g3) (kX6_wouldClose_c l G A (hK.k g3) hy212 c240) rfl rfl ⟨Nat.le_of_ble_eq_true rfl, Nat.le_of_ble_eq_true rfl⟩ rfl hl.1 rfl (lv_room (by simp [rf_cat, int_cat, long_cat])) dL_act_244 ⟨Nat.zero_le _, Nat.zero_le _⟩ (fun H locs hR hS => ?_)
      have hK : mmKN μ y212.2.2 := hK.tr (kX6_wouldClose_kn hy212)
      refine lv_istore (i := 7) (lv' := [(7, .int y212.2.1), (3, .int y4.1), (2, .int y1.2.1), (0, rf h0), (1, .int x1)]) S.1 S.2.1 dL_act_247 hl (by decide) rfl (fun ls hl => ?_)
      refine mm_aload_n S dL_act_249 rfl (lv_at hl 3 rfl) ?_
      refine lv_iload_n S.1 S.2.1 dL_act_250 rfl (lv_at hl 1 rfl) ?_
      obtain ⟨y213, hy213, hf⟩ := bd hf
      rcases it_or hf with ⟨c236, hf⟩ | ⟨c236, hf⟩
      · refine mm_callVi S hR hS hA (As := [.int y4.1]) (rest := []) cvL_87 (hK.k g3) (kX6_close_c l G A (hK.k g3) hy213 c236) rfl rfl ⟨Nat.le_of_ble_eq_true rfl, Nat.le_of_ble_eq_true rfl⟩ rfl hl.1 rfl (lv_room (by simp [rf_cat, int_cat, long_cat])) dL_act_251 ⟨Nat.zero_le _, Nat.zero_le _⟩ (fun H locs hR hS => ?_)
        have hK : mmKN μ y213.2.2 := hK.tr (kX6_close_kn hy213)
        refine lv_iload S.1 S.2.1 dL_act_254 (lv_at hl 0 rfl) ?_
        refine lv_icmp_ne (tgt := 317) S.1 S.2.1 dL_act_256 (by decide) (fun c214 => ?_) (fun c214 => ?_)
        · have hf := it_f hf c214
          refine lv_iconst (v := 0) S.1 S.2.1 dL_act_317 (by decide) ?_
          obtain rfl := Option.some.inj hf
          refine W.mono9 (MQ.mono9 (fun oc t h => ⟨_, Or.inl rfl, h⟩)) ?_
          refine W.widen (k := 1) (n := 6) (Nat.le_of_ble_eq_true rfl) (Nat.le_of_ble_eq_true rfl) ?_
          exact mm_zret S hR hS hr hlocks (Or.inl rfl) dL_act_318
        · have hf := it_t hf c214
          refine mm_aload_n S dL_act_259 rfl (lv_at hl 3 rfl) ?_
          refine lv_iload_n S.1 S.2.1 dL_act_260 rfl (lv_at hl 1 rfl) ?_
          refine lv_iconst (v := 1) S.1 S.2.1 dL_act_261 (by decide) ?_
          obtain ⟨y215, hy215, hf⟩ := bd hf
          rcases it_or hf with ⟨c232, hf⟩ | ⟨c232, hf⟩
          · refine mm_callVi S hR hS hA (As := [.int y4.1, .int 1]) (rest := []) cvL_43 (hK.k g3) (kX6_of_c l G A (hK.k g3) hy215 c232) rfl rfl ⟨Nat.le_of_ble_eq_true rfl, Nat.le_of_ble_eq_true rfl⟩ rfl hl.1 rfl (lv_room (by simp [rf_cat, int_cat, long_cat])) dL_act_262 ⟨Nat.zero_le _, Nat.zero_le _⟩ (fun H locs hR hS => ?_)
            have hK : mmKN μ y215.2.2 := hK.tr (kX6_of_kn hy215)
            refine lv_iconst (v := 1) S.1 S.2.1 dL_act_265 (by decide) ?_
            refine lv_icmp_ne (tgt := 279) S.1 S.2.1 dL_act_266 (by decide) (fun c216 => ?_) (fun c216 => ?_)
            · have hf := it_f hf c216
              refine mm_aload_n S dL_act_279 rfl (lv_at hl 3 rfl) ?_
              refine lv_iload_n S.1 S.2.1 dL_act_280 rfl (lv_at hl 1 rfl) ?_
              refine lv_iconst (v := 1) S.1 S.2.1 dL_act_281 (by decide) ?_
              obtain ⟨y217, hy217, hf⟩ := bd hf
              rcases it_or hf with ⟨c227, hf⟩ | ⟨c227, hf⟩
              · refine mm_callVi S hR hS hA (As := [.int y4.1, .int 1]) (rest := []) cvL_43 (hK.k g3) (kX6_of_c l G A (hK.k g3) hy217 c227) rfl rfl ⟨Nat.le_of_ble_eq_true rfl, Nat.le_of_ble_eq_true rfl⟩ rfl hl.1 rfl (lv_room (by simp [rf_cat, int_cat, long_cat])) dL_act_282 ⟨Nat.zero_le _, Nat.zero_le _⟩ (fun H locs hR hS => ?_)
                have hK : mmKN μ y217.2.2 := hK.tr (kX6_of_kn hy217)
                refine lv_iconst (v := 3) S.1 S.2.1 dL_act_285 (by decide) ?_
                refine lv_icmp_ne (tgt := 297) S.1 S.2.1 dL_act_286 (by decide) (fun c218 => ?_) (fun c218 => ?_)
                · have hf := it_f hf c218
                  refine mm_aload_n S dL_act_297 rfl (lv_at hl 3 rfl) ?_
                  refine lv_iload_n S.1 S.2.1 dL_act_298 rfl (lv_at hl 1 rfl) ?_
                  refine lv_iconst (v := 4) S.1 S.2.1 dL_act_299 (by decide) ?_
                  obtain ⟨y219, hy219, hf⟩ := bd hf
                  rcases it_or hf with ⟨c222, hf⟩ | ⟨c222, hf⟩
                  · refine mm_callVi S hR hS hA (As := [.int y4.1, .int 4]) (rest := []) cvL_43 (hK.k g3) (kX6_of_c l G A (hK.k g3) hy219 c222) rfl rfl ⟨Nat.le_of_ble_eq_true rfl, Nat.le_of_ble_eq_true rfl⟩ rfl hl.1 rfl (lv_room (by simp [rf_cat, int_cat, long_cat])) dL_act_300 ⟨Nat.zero_le _, Nat.zero_le _⟩ (fun H locs hR hS => ?_)
                    have hK : mmKN μ y219.2.2 := hK.tr (kX6_of_kn hy219)
                    refine lv_iload S.1 S.2.1 dL_act_303 (lv_at hl 0 rfl) ?_
                    refine lv_icmp_eq (tgt := 313) S.1 S.2.1 dL_act_305 (by decide) (fun c220 => ?_) (fun c220 => ?_)
                    · have hf := it_t hf c220
                      refine lv_iconst (v := 1) S.1 S.2.1 dL_act_313 (by decide) ?_
                      refine lv_goto (tgt := 318) S.1 S.2.1 dL_act_314 (by decide) ?_
                      obtain rfl := Option.some.inj hf
                      refine W.mono9 (MQ.mono9 (fun oc t h => ⟨_, Or.inl rfl, h⟩)) ?_
                      refine W.widen (k := 1) (n := 6) (Nat.le_of_ble_eq_true rfl) (Nat.le_of_ble_eq_true rfl) ?_
                      exact mm_zret S hR hS hr hlocks (Or.inr rfl) dL_act_318
                    · have hf := it_f hf c220
                      refine lv_iload S.1 S.2.1 dL_act_308 (lv_at hl 0 rfl) ?_
                      refine lv_if_ne (tgt := 317) S.1 S.2.1 dL_act_310 (by decide) (fun c221 => ?_) (fun c221 => ?_)
                      · have hf := it_f hf c221
                        refine lv_iconst (v := 0) S.1 S.2.1 dL_act_317 (by decide) ?_
                        obtain rfl := Option.some.inj hf
                        refine W.mono9 (MQ.mono9 (fun oc t h => ⟨_, Or.inl rfl, h⟩)) ?_
                        refine W.widen (k := 1) (n := 6) (Nat.le_of_ble_eq_true rfl) (Nat.le_of_ble_eq_true rfl) ?_
                        exact mm_zret S hR hS hr hlocks (Or.inl rfl) dL_act_318
                      · have hf := it_t hf c221
                        refine lv_iconst (v := 1) S.1 S.2.1 dL_act_313 (by decide) ?_
                        refine lv_goto (tgt := 318) S.1 S.2.1 dL_act_314 (by decide) ?_
                        obtain rfl := Option.some.inj hf
                        refine W.mono9 (MQ.mono9 (fun oc t h => ⟨_, Or.inl rfl, h⟩)) ?_
                        refine W.widen (k := 1) (n := 6) (Nat.le_of_ble_eq_true rfl) (Nat.le_of_ble_eq_true rfl) ?_
                        exact mm_zret S hR hS hr hlocks (Or.inr rfl) dL_act_318
                  rcases it_or hf with ⟨c223, hf⟩ | ⟨c223, hf⟩
                  · skip
                    obtain rfl := Option.some.inj hf
                    have hnx : ¬ y219.1 = 0 := c222
                    have hM9 := kX6_of_x l hl0 G A (hK.k g3) hy219 hnx
                    rw [show exn y219.1 = "java/lang/IndexOutOfBoundsException" from by rw [c223]; decide +kernel] at hM9
                    refine mm_catchV S hR hS hA hX (As := [.int y4.1, .int 4]) (rest := []) cvL_43 (hK.k g3) hM9 rfl rfl ⟨Nat.le_of_ble_eq_true rfl, Nat.le_of_ble_eq_true rfl⟩ rfl hl.1 rfl (lv_room (by simp [rf_cat, int_cat, long_cat])) dL_act_300 ⟨Nat.le_of_ble_eq_true rfl, Nat.le_of_ble_eq_true rfl⟩ (tableOf (hhAct.take 4)) ⟨242, 318, 552, 100⟩ (tableOf (hhAct.drop 5)) (by rw [htab]; rfl) (fun z hz => Or.inl ((by decide : ∀ z ∈ (tableOf (hhAct.take 4)), covers z 300 = false) z hz)) rfl (by decide) wlI wcI (fun q9 H9 locs hR9 hS hz9 => ?_)
                    have hK9 : mmKN μ y219.2.2 := hK.tr (kX6_of_kn hy219)
                    obtain ⟨r9, hr9⟩ := hz _ rfl (H9.size + 1) (by have h1 := hR.1.2; rw [hK.2.2] at h1; omega)
                    refine W.mono9 (MQ.mono9 (fun oc t h => ⟨r9, Or.inr ⟨_, _, rfl, by have h1 := hR.1.2; rw [hK.2.2] at h1; omega, hr9⟩, h⟩)) ?_
                    refine lv_astore (i := 4) (lv' := [(4, .ref q9), (7, .int y212.2.1), (3, .int y4.1), (2, .int y1.2.1), (0, rf h0), (1, .int x1)]) S.1 S.2.1 dL_act_552 hl (by decide) (by simp [rf_cat, int_cat]) (fun ls hl => ?_)
                    exact wbL_act_554 E0 h0 x1 y1.2.1 _ hr9 _ _ _ hR9 hS (lv_sub hl [4, 5, 3] rfl)
                  obtain ⟨c224, hf⟩ := gd hf
                  obtain rfl := Option.some.inj hf
                  have hnx : ¬ y219.1 = 0 := c222
                  have hM9 := kX6_of_x l hl0 G A (hK.k g3) hy219 hnx
                  rw [show exn y219.1 = "java/lang/IllegalStateException" from by rw [c224]; decide +kernel] at hM9
                  refine mm_catchV S hR hS hA hX (As := [.int y4.1, .int 4]) (rest := []) cvL_43 (hK.k g3) hM9 rfl rfl ⟨Nat.le_of_ble_eq_true rfl, Nat.le_of_ble_eq_true rfl⟩ rfl hl.1 rfl (lv_room (by simp [rf_cat, int_cat, long_cat])) dL_act_300 ⟨Nat.le_of_ble_eq_true rfl, Nat.le_of_ble_eq_true rfl⟩ (tableOf (hhAct.take 12)) ⟨242, 318, 579, 102⟩ (tableOf (hhAct.drop 13)) (by rw [htab]; rfl) (act_pass S hN (by decide)) rfl (by decide) wlS wcS (fun q9 H9 locs hR9 hS hz9 => ?_)
                  have hK9 : mmKN μ y219.2.2 := hK.tr (kX6_of_kn hy219)
                  obtain ⟨r9, hr9⟩ := hz _ rfl (H9.size + 1) (by have h1 := hR.1.2; rw [hK.2.2] at h1; omega)
                  refine W.mono9 (MQ.mono9 (fun oc t h => ⟨r9, Or.inr ⟨_, _, rfl, by have h1 := hR.1.2; rw [hK.2.2] at h1; omega, hr9⟩, h⟩)) ?_
                  refine lv_astore (i := 4) (lv' := [(4, .ref q9), (7, .int y212.2.1), (3, .int y4.1), (2, .int y1.2.1), (0, rf h0), (1, .int x1)]) S.1 S.2.1 dL_act_579 hl (by decide) (by simp [rf_cat, int_cat]) (fun ls hl => ?_)
                  exact wbL_act_581 E0 h0 x1 y1.2.1 y4.1 _ hr9 _ _ _ hR9 hS (lv_sub hl [4, 5, 3, 2] rfl)
                · have hf := it_t hf c218
                  refine lv_iload S.1 S.2.1 dL_act_289 (lv_at hl 0 rfl) ?_
                  refine lv_if_ne (tgt := 317) S.1 S.2.1 dL_act_291 (by decide) (fun c226 => ?_) (fun c226 => ?_)
                  · have hf := it_f hf c226
                    refine lv_iconst (v := 0) S.1 S.2.1 dL_act_317 (by decide) ?_
                    obtain rfl := Option.some.inj hf
                    refine W.mono9 (MQ.mono9 (fun oc t h => ⟨_, Or.inl rfl, h⟩)) ?_
                    refine W.widen (k := 1) (n := 6) (Nat.le_of_ble_eq_true rfl) (Nat.le_of_ble_eq_true rfl) ?_
                    exact mm_zret S hR hS hr hlocks (Or.inl rfl) dL_act_318
                  · have hf := it_t hf c226
                    refine lv_goto (tgt := 313) S.1 S.2.1 dL_act_294 (by decide) ?_
                    refine lv_iconst (v := 1) S.1 S.2.1 dL_act_313 (by decide) ?_
                    refine lv_goto (tgt := 318) S.1 S.2.1 dL_act_314 (by decide) ?_
                    obtain rfl := Option.some.inj hf
                    refine W.mono9 (MQ.mono9 (fun oc t h => ⟨_, Or.inl rfl, h⟩)) ?_
                    refine W.widen (k := 1) (n := 6) (Nat.le_of_ble_eq_true rfl) (Nat.le_of_ble_eq_true rfl) ?_
                    exact mm_zret S hR hS hr hlocks (Or.inr rfl) dL_act_318
              rcases it_or hf with ⟨c228, hf⟩ | ⟨c228, hf⟩
              · skip
                obtain rfl := Option.some.inj hf
                have hnx : ¬ y217.1 = 0 := c227
                have hM9 := kX6_of_x l hl0 G A (hK.k g3) hy217 hnx
                rw [show exn y217.1 = "java/lang/IndexOutOfBoundsException" from by rw [c228]; decide +kernel] at hM9
                refine mm_catchV S hR hS hA hX (As := [.int y4.1, .int 1]) (rest := []) cvL_43 (hK.k g3) hM9 rfl rfl ⟨Nat.le_of_ble_eq_true rfl, Nat.le_of_ble_eq_true rfl⟩ rfl hl.1 rfl (lv_room (by simp [rf_cat, int_cat, long_cat])) dL_act_282 ⟨Nat.le_of_ble_eq_true rfl, Nat.le_of_ble_eq_true rfl⟩ (tableOf (hhAct.take 4)) ⟨242, 318, 552, 100⟩ (tableOf (hhAct.drop 5)) (by rw [htab]; rfl) (fun z hz => Or.inl ((by decide : ∀ z ∈ (tableOf (hhAct.take 4)), covers z 282 = false) z hz)) rfl (by decide) wlI wcI (fun q9 H9 locs hR9 hS hz9 => ?_)
                have hK9 : mmKN μ y217.2.2 := hK.tr (kX6_of_kn hy217)
                obtain ⟨r9, hr9⟩ := hz _ rfl (H9.size + 1) (by have h1 := hR.1.2; rw [hK.2.2] at h1; omega)
                refine W.mono9 (MQ.mono9 (fun oc t h => ⟨r9, Or.inr ⟨_, _, rfl, by have h1 := hR.1.2; rw [hK.2.2] at h1; omega, hr9⟩, h⟩)) ?_
                refine lv_astore (i := 4) (lv' := [(4, .ref q9), (7, .int y212.2.1), (3, .int y4.1), (2, .int y1.2.1), (0, rf h0), (1, .int x1)]) S.1 S.2.1 dL_act_552 hl (by decide) (by simp [rf_cat, int_cat]) (fun ls hl => ?_)
                exact wbL_act_554 E0 h0 x1 y1.2.1 _ hr9 _ _ _ hR9 hS (lv_sub hl [4, 5, 3] rfl)
              obtain ⟨c229, hf⟩ := gd hf
              obtain rfl := Option.some.inj hf
              have hnx : ¬ y217.1 = 0 := c227
              have hM9 := kX6_of_x l hl0 G A (hK.k g3) hy217 hnx
              rw [show exn y217.1 = "java/lang/IllegalStateException" from by rw [c229]; decide +kernel] at hM9
              refine mm_catchV S hR hS hA hX (As := [.int y4.1, .int 1]) (rest := []) cvL_43 (hK.k g3) hM9 rfl rfl ⟨Nat.le_of_ble_eq_true rfl, Nat.le_of_ble_eq_true rfl⟩ rfl hl.1 rfl (lv_room (by simp [rf_cat, int_cat, long_cat])) dL_act_282 ⟨Nat.le_of_ble_eq_true rfl, Nat.le_of_ble_eq_true rfl⟩ (tableOf (hhAct.take 12)) ⟨242, 318, 579, 102⟩ (tableOf (hhAct.drop 13)) (by rw [htab]; rfl) (act_pass S hN (by decide)) rfl (by decide) wlS wcS (fun q9 H9 locs hR9 hS hz9 => ?_)
              have hK9 : mmKN μ y217.2.2 := hK.tr (kX6_of_kn hy217)
              obtain ⟨r9, hr9⟩ := hz _ rfl (H9.size + 1) (by have h1 := hR.1.2; rw [hK.2.2] at h1; omega)
              refine W.mono9 (MQ.mono9 (fun oc t h => ⟨r9, Or.inr ⟨_, _, rfl, by have h1 := hR.1.2; rw [hK.2.2] at h1; omega, hr9⟩, h⟩)) ?_
              refine lv_astore (i := 4) (lv' := [(4, .ref q9), (7, .int y212.2.1), (3, .int y4.1), (2, .int y1.2.1), (0, rf h0), (1, .int x1)]) S.1 S.2.1 dL_act_579 hl (by decide) (by simp [rf_cat, int_cat]) (fun ls hl => ?_)
              exact wbL_act_581 E0 h0 x1 y1.2.1 y4.1 _ hr9 _ _ _ hR9 hS (lv_sub hl [4, 5, 3, 2] rfl)
            · have hf := it_t hf c216
              refine lv_iload S.1 S.2.1 dL_act_269 (lv_at hl 0 rfl) ?_
              refine lv_bipush (v := 8) S.1 S.2.1 dL_act_271 (by decide) ?_
              refine lv_icmp_ne (tgt := 317) S.1 S.2.1 dL_act_273 (by decide) (fun c231 => ?_) (fun c231 => ?_)
              · have hf := it_f hf c231
                refine lv_iconst (v := 0) S.1 S.2.1 dL_act_317 (by decide) ?_
                obtain rfl := Option.some.inj hf
                refine W.mono9 (MQ.mono9 (fun oc t h => ⟨_, Or.inl rfl, h⟩)) ?_
                refine W.widen (k := 1) (n := 6) (Nat.le_of_ble_eq_true rfl) (Nat.le_of_ble_eq_true rfl) ?_
                exact mm_zret S hR hS hr hlocks (Or.inl rfl) dL_act_318
              · have hf := it_t hf c231
                refine lv_goto (tgt := 313) S.1 S.2.1 dL_act_276 (by decide) ?_
                refine lv_iconst (v := 1) S.1 S.2.1 dL_act_313 (by decide) ?_
                refine lv_goto (tgt := 318) S.1 S.2.1 dL_act_314 (by decide) ?_
                obtain rfl := Option.some.inj hf
                refine W.mono9 (MQ.mono9 (fun oc t h => ⟨_, Or.inl rfl, h⟩)) ?_
                refine W.widen (k := 1) (n := 6) (Nat.le_of_ble_eq_true rfl) (Nat.le_of_ble_eq_true rfl) ?_
                exact mm_zret S hR hS hr hlocks (Or.inr rfl) dL_act_318
          rcases it_or hf with ⟨c233, hf⟩ | ⟨c233, hf⟩
          · skip
            obtain rfl := Option.some.inj hf
            have hnx : ¬ y215.1 = 0 := c232
            have hM9 := kX6_of_x l hl0 G A (hK.k g3) hy215 hnx
            rw [show exn y215.1 = "java/lang/IndexOutOfBoundsException" from by rw [c233]; decide +kernel] at hM9
            refine mm_catchV S hR hS hA hX (As := [.int y4.1, .int 1]) (rest := []) cvL_43 (hK.k g3) hM9 rfl rfl ⟨Nat.le_of_ble_eq_true rfl, Nat.le_of_ble_eq_true rfl⟩ rfl hl.1 rfl (lv_room (by simp [rf_cat, int_cat, long_cat])) dL_act_262 ⟨Nat.le_of_ble_eq_true rfl, Nat.le_of_ble_eq_true rfl⟩ (tableOf (hhAct.take 4)) ⟨242, 318, 552, 100⟩ (tableOf (hhAct.drop 5)) (by rw [htab]; rfl) (fun z hz => Or.inl ((by decide : ∀ z ∈ (tableOf (hhAct.take 4)), covers z 262 = false) z hz)) rfl (by decide) wlI wcI (fun q9 H9 locs hR9 hS hz9 => ?_)
            have hK9 : mmKN μ y215.2.2 := hK.tr (kX6_of_kn hy215)
            obtain ⟨r9, hr9⟩ := hz _ rfl (H9.size + 1) (by have h1 := hR.1.2; rw [hK.2.2] at h1; omega)
            refine W.mono9 (MQ.mono9 (fun oc t h => ⟨r9, Or.inr ⟨_, _, rfl, by have h1 := hR.1.2; rw [hK.2.2] at h1; omega, hr9⟩, h⟩)) ?_
            refine lv_astore (i := 4) (lv' := [(4, .ref q9), (7, .int y212.2.1), (3, .int y4.1), (2, .int y1.2.1), (0, rf h0), (1, .int x1)]) S.1 S.2.1 dL_act_552 hl (by decide) (by simp [rf_cat, int_cat]) (fun ls hl => ?_)
            exact wbL_act_554 E0 h0 x1 y1.2.1 _ hr9 _ _ _ hR9 hS (lv_sub hl [4, 5, 3] rfl)
          obtain ⟨c234, hf⟩ := gd hf
          obtain rfl := Option.some.inj hf
          have hnx : ¬ y215.1 = 0 := c232
          have hM9 := kX6_of_x l hl0 G A (hK.k g3) hy215 hnx
          rw [show exn y215.1 = "java/lang/IllegalStateException" from by rw [c234]; decide +kernel] at hM9
          refine mm_catchV S hR hS hA hX (As := [.int y4.1, .int 1]) (rest := []) cvL_43 (hK.k g3) hM9 rfl rfl ⟨Nat.le_of_ble_eq_true rfl, Nat.le_of_ble_eq_true rfl⟩ rfl hl.1 rfl (lv_room (by simp [rf_cat, int_cat, long_cat])) dL_act_262 ⟨Nat.le_of_ble_eq_true rfl, Nat.le_of_ble_eq_true rfl⟩ (tableOf (hhAct.take 12)) ⟨242, 318, 579, 102⟩ (tableOf (hhAct.drop 13)) (by rw [htab]; rfl) (act_pass S hN (by decide)) rfl (by decide) wlS wcS (fun q9 H9 locs hR9 hS hz9 => ?_)
          have hK9 : mmKN μ y215.2.2 := hK.tr (kX6_of_kn hy215)
          obtain ⟨r9, hr9⟩ := hz _ rfl (H9.size + 1) (by have h1 := hR.1.2; rw [hK.2.2] at h1; omega)
          refine W.mono9 (MQ.mono9 (fun oc t h => ⟨r9, Or.inr ⟨_, _, rfl, by have h1 := hR.1.2; rw [hK.2.2] at h1; omega, hr9⟩, h⟩)) ?_
          refine lv_astore (i := 4) (lv' := [(4, .ref q9), (7, .int y212.2.1), (3, .int y4.1), (2, .int y1.2.1), (0, rf h0), (1, .int x1)]) S.1 S.2.1 dL_act_579 hl (by decide) (by simp [rf_cat, int_cat]) (fun ls hl => ?_)
          exact wbL_act_581 E0 h0 x1 y1.2.1 y4.1 _ hr9 _ _ _ hR9 hS (lv_sub hl [4, 5, 3, 2] rfl)
      rcases it_or hf with ⟨c237, hf⟩ | ⟨c237, hf⟩
      · skip
        obtain rfl := Option.some.inj hf
        have hnx : ¬ y213.1 = 0 := c236
        have hM9 := kX6_close_x l hl0 G A (hK.k g3) hy213 hnx
        rw [show exn y213.1 = "java/lang/IndexOutOfBoundsException" from by rw [c237]; decide +kernel] at hM9
        refine mm_catchV S hR hS hA hX (As := [.int y4.1]) (rest := []) cvL_87 (hK.k g3) hM9 rfl rfl ⟨Nat.le_of_ble_eq_true rfl, Nat.le_of_ble_eq_true rfl⟩ rfl hl.1 rfl (lv_room (by simp [rf_cat, int_cat, long_cat])) dL_act_251 ⟨Nat.le_of_ble_eq_true rfl, Nat.le_of_ble_eq_true rfl⟩ (tableOf (hhAct.take 4)) ⟨242, 318, 552, 100⟩ (tableOf (hhAct.drop 5)) (by rw [htab]; rfl) (fun z hz => Or.inl ((by decide : ∀ z ∈ (tableOf (hhAct.take 4)), covers z 251 = false) z hz)) rfl (by decide) wlI wcI (fun q9 H9 locs hR9 hS hz9 => ?_)
        have hK9 : mmKN μ y213.2.2 := hK.tr (kX6_close_kn hy213)
        obtain ⟨r9, hr9⟩ := hz _ rfl (H9.size + 1) (by have h1 := hR.1.2; rw [hK.2.2] at h1; omega)
        refine W.mono9 (MQ.mono9 (fun oc t h => ⟨r9, Or.inr ⟨_, _, rfl, by have h1 := hR.1.2; rw [hK.2.2] at h1; omega, hr9⟩, h⟩)) ?_
        refine lv_astore (i := 4) (lv' := [(4, .ref q9), (7, .int y212.2.1), (3, .int y4.1), (2, .int y1.2.1), (0, rf h0), (1, .int x1)]) S.1 S.2.1 dL_act_552 hl (by decide) (by simp [rf_cat, int_cat]) (fun ls hl => ?_)
        exact wbL_act_554 E0 h0 x1 y1.2.1 _ hr9 _ _ _ hR9 hS (lv_sub hl [4, 5, 3] rfl)
      obtain ⟨c238, hf⟩ := gd hf
      obtain rfl := Option.some.inj hf
      have hnx : ¬ y213.1 = 0 := c236
      have hM9 := kX6_close_x l hl0 G A (hK.k g3) hy213 hnx
      rw [show exn y213.1 = "java/lang/IllegalStateException" from by rw [c238]; decide +kernel] at hM9
      refine mm_catchV S hR hS hA hX (As := [.int y4.1]) (rest := []) cvL_87 (hK.k g3) hM9 rfl rfl ⟨Nat.le_of_ble_eq_true rfl, Nat.le_of_ble_eq_true rfl⟩ rfl hl.1 rfl (lv_room (by simp [rf_cat, int_cat, long_cat])) dL_act_251 ⟨Nat.le_of_ble_eq_true rfl, Nat.le_of_ble_eq_true rfl⟩ (tableOf (hhAct.take 12)) ⟨242, 318, 579, 102⟩ (tableOf (hhAct.drop 13)) (by rw [htab]; rfl) (act_pass S hN (by decide)) rfl (by decide) wlS wcS (fun q9 H9 locs hR9 hS hz9 => ?_)
      have hK9 : mmKN μ y213.2.2 := hK.tr (kX6_close_kn hy213)
      obtain ⟨r9, hr9⟩ := hz _ rfl (H9.size + 1) (by have h1 := hR.1.2; rw [hK.2.2] at h1; omega)
      refine W.mono9 (MQ.mono9 (fun oc t h => ⟨r9, Or.inr ⟨_, _, rfl, by have h1 := hR.1.2; rw [hK.2.2] at h1; omega, hr9⟩, h⟩)) ?_
      refine lv_astore (i := 4) (lv' := [(4, .ref q9), (7, .int y212.2.1), (3, .int y4.1), (2, .int y1.2.1), (0, rf h0), (1, .int x1)]) S.1 S.2.1 dL_act_579 hl (by decide) (by simp [rf_cat, int_cat]) (fun ls hl => ?_)
      exact wbL_act_581 E0 h0 x1 y1.2.1 y4.1 _ hr9 _ _ _ hR9 hS (lv_sub hl [4, 5, 3, 2] rfl)
    rcases it_or hf with ⟨c241, hf⟩ | ⟨c241, hf⟩
    · skip
      obtain rfl := Option.some.inj hf
      have hnx : ¬ y212.1 = 0 := c240
      have hM9 := kX6_wouldClose_x l hl0 G A (hK.k g3) hy212 hnx
      rw [show exn y212.1 = "java/lang/IndexOutOfBoundsException" from by rw [c241]; decide +kernel] at hM9
      refine mm_catchV S hR hS hA hX (As := [.int y4.1]) (rest := []) cvL_84 (hK.k g3) hM9 rfl rfl ⟨Nat.le_of_ble_eq_true rfl, Nat.le_of_ble_eq_true rfl⟩ rfl hl.1 rfl (lv_room (by simp [rf_cat, int_cat, long_cat])) dL_act_244 ⟨Nat.le_of_ble_eq_true rfl, Nat.le_of_ble_eq_true rfl⟩ (tableOf (hhAct.take 4)) ⟨242, 318, 552, 100⟩ (tableOf (hhAct.drop 5)) (by rw [htab]; rfl) (fun z hz => Or.inl ((by decide : ∀ z ∈ (tableOf (hhAct.take 4)), covers z 244 = false) z hz)) rfl (by decide) wlI wcI (fun q9 H9 locs hR9 hS hz9 => ?_)
      have hK9 : mmKN μ y212.2.2 := hK.tr (kX6_wouldClose_kn hy212)
      obtain ⟨r9, hr9⟩ := hz _ rfl (H9.size + 1) (by have h1 := hR.1.2; rw [hK.2.2] at h1; omega)
      refine W.mono9 (MQ.mono9 (fun oc t h => ⟨r9, Or.inr ⟨_, _, rfl, by have h1 := hR.1.2; rw [hK.2.2] at h1; omega, hr9⟩, h⟩)) ?_
      refine lv_astore (i := 4) (lv' := [(4, .ref q9), (3, .int y4.1), (2, .int y1.2.1), (0, rf h0), (1, .int x1)]) S.1 S.2.1 dL_act_552 hl (by decide) (by simp [rf_cat, int_cat]) (fun ls hl => ?_)
      exact wbL_act_554 E0 h0 x1 y1.2.1 _ hr9 _ _ _ hR9 hS (lv_sub hl [3, 4, 2] rfl)
    obtain ⟨c242, hf⟩ := gd hf
    obtain rfl := Option.some.inj hf
    have hnx : ¬ y212.1 = 0 := c240
    have hM9 := kX6_wouldClose_x l hl0 G A (hK.k g3) hy212 hnx
    rw [show exn y212.1 = "java/lang/IllegalStateException" from by rw [c242]; decide +kernel] at hM9
    refine mm_catchV S hR hS hA hX (As := [.int y4.1]) (rest := []) cvL_84 (hK.k g3) hM9 rfl rfl ⟨Nat.le_of_ble_eq_true rfl, Nat.le_of_ble_eq_true rfl⟩ rfl hl.1 rfl (lv_room (by simp [rf_cat, int_cat, long_cat])) dL_act_244 ⟨Nat.le_of_ble_eq_true rfl, Nat.le_of_ble_eq_true rfl⟩ (tableOf (hhAct.take 12)) ⟨242, 318, 579, 102⟩ (tableOf (hhAct.drop 13)) (by rw [htab]; rfl) (act_pass S hN (by decide)) rfl (by decide) wlS wcS (fun q9 H9 locs hR9 hS hz9 => ?_)
    have hK9 : mmKN μ y212.2.2 := hK.tr (kX6_wouldClose_kn hy212)
    obtain ⟨r9, hr9⟩ := hz _ rfl (H9.size + 1) (by have h1 := hR.1.2; rw [hK.2.2] at h1; omega)
    refine W.mono9 (MQ.mono9 (fun oc t h => ⟨r9, Or.inr ⟨_, _, rfl, by have h1 := hR.1.2; rw [hK.2.2] at h1; omega, hr9⟩, h⟩)) ?_
    refine lv_astore (i := 4) (lv' := [(4, .ref q9), (3, .int y4.1), (2, .int y1.2.1), (0, rf h0), (1, .int x1)]) S.1 S.2.1 dL_act_579 hl (by decide) (by simp [rf_cat, int_cat]) (fun ls hl => ?_)
    exact wbL_act_581 E0 h0 x1 y1.2.1 y4.1 _ hr9 _ _ _ hR9 hS (lv_sub hl [3, 4, 2, 1] rfl)
  rcases it_or hf with ⟨c244, hf⟩ | ⟨c244, hf⟩
  · refine mm_swL (tgt := 319) (off := 295) S [8, 9, 10] dL_act_24 (by simpa using c244) (by decide) (by decide) ?_
    refine mm_aload_n S dL_act_319 rfl (lv_at hl 2 rfl) ?_
    refine lv_bipush (v := 11) S.1 S.2.1 dL_act_320 (by decide) ?_
    obtain ⟨y245, hy245, hf⟩ := bd hf
    rcases it_or hf with ⟨c268, hf⟩ | ⟨c268, hf⟩
    · refine mm_callVi S hR hS hA (As := [.int 11]) (rest := []) cvL_39 (hK.k g3) (kX6_many_c l G A (hK.k g3) hy245 c268) rfl rfl ⟨Nat.le_of_ble_eq_true rfl, Nat.le_of_ble_eq_true rfl⟩ rfl hl.1 rfl (lv_room (by simp [rf_cat, int_cat, long_cat])) dL_act_322 ⟨Nat.zero_le _, Nat.zero_le _⟩ (fun H locs hR hS => ?_)
      have hK : mmKN μ y245.2.2 := hK.tr (kX6_many_kn hy245)
      refine lv_istore (i := 8) (lv' := [(8, .int y245.2.1), (3, .int y4.1), (2, .int y1.2.1), (0, rf h0), (1, .int x1)]) S.1 S.2.1 dL_act_325 hl (by decide) rfl (fun ls hl => ?_)
      refine mm_aload_n S dL_act_327 rfl (lv_at hl 3 rfl) ?_
      refine lv_iconst (v := 1) S.1 S.2.1 dL_act_328 (by decide) ?_
      refine lv_iload_n S.1 S.2.1 dL_act_329 rfl (lv_at hl 4 rfl) ?_
      refine lv_iconst (v := 4) S.1 S.2.1 dL_act_330 (by decide) ?_
      refine lv_ishr S.1 S.2.1 dL_act_331 ?_
      refine lv_bipush (v := 12) S.1 S.2.1 dL_act_332 (by decide) ?_
      obtain ⟨y246, hy246, hf⟩ := bd hf
      refine mm_callSi S hR hS hA (As := [.int (x1 >>> (4 &&& 31)), .int 12]) (rest := [.int 1, rf h0]) csL_25 (kL_below_c l G A hy246) rfl rfl ⟨Nat.le_of_ble_eq_true rfl, Nat.le_of_ble_eq_true rfl⟩ rfl hl.1 rfl (lv_room (by simp [rf_cat, int_cat, long_cat])) dL_act_334 ⟨Nat.le_of_ble_eq_true rfl, Nat.le_of_ble_eq_true rfl⟩ (fun H locs hR hS => ?_)
      have hK : mmKN μ y246.2 := hK.tr (kL_below_kn hy246)
      refine lv_iadd S.1 S.2.1 dL_act_337 ?_
      obtain ⟨y247, hy247, hf⟩ := bd hf
      rcases it_or hf with ⟨c264, hf⟩ | ⟨c264, hf⟩
      · refine mm_callVi S hR hS hA (As := [.int (1 + y246.1)]) (rest := []) cvL_90 (hK.k g3) (kX6_run_c l G A (hK.k g3) hy247 c264) rfl rfl ⟨Nat.le_of_ble_eq_true rfl, Nat.le_of_ble_eq_true rfl⟩ rfl hl.1 rfl (lv_room (by simp [rf_cat, int_cat, long_cat])) dL_act_338 ⟨Nat.zero_le _, Nat.zero_le _⟩ (fun H locs hR hS => ?_)
        have hK : mmKN μ y247.2.2 := hK.tr (kX6_run_kn hy247)
        refine lv_istore (i := 9) (lv' := [(9, .int y247.2.1), (8, .int y245.2.1), (3, .int y4.1), (2, .int y1.2.1), (0, rf h0), (1, .int x1)]) S.1 S.2.1 dL_act_341 hl (by decide) rfl (fun ls hl => ?_)
        refine mm_aload_n S dL_act_343 rfl (lv_at hl 4 rfl) ?_
        refine lv_bipush (v := 11) S.1 S.2.1 dL_act_344 (by decide) ?_
        obtain ⟨y248, hy248, hf⟩ := bd hf
        rcases it_or hf with ⟨c260, hf⟩ | ⟨c260, hf⟩
        · refine mm_callVi S hR hS hA (As := [.int 11]) (rest := []) cvL_39 (hK.k g3) (kX6_many_c l G A (hK.k g3) hy248 c260) rfl rfl ⟨Nat.le_of_ble_eq_true rfl, Nat.le_of_ble_eq_true rfl⟩ rfl hl.1 rfl (lv_room (by simp [rf_cat, int_cat, long_cat])) dL_act_346 ⟨Nat.zero_le _, Nat.zero_le _⟩ (fun H locs hR hS => ?_)
          have hK : mmKN μ y248.2.2 := hK.tr (kX6_many_kn hy248)
          refine lv_iload S.1 S.2.1 dL_act_349 (lv_at hl 1 rfl) ?_
          refine lv_iload S.1 S.2.1 dL_act_351 (lv_at hl 0 rfl) ?_
          refine lv_iadd S.1 S.2.1 dL_act_353 ?_
          refine lv_icmp_ne (tgt := 400) S.1 S.2.1 dL_act_354 (by decide) (fun c249 => ?_) (fun c249 => ?_)
          · have hf := it_f hf c249
            refine lv_iconst (v := 0) S.1 S.2.1 dL_act_400 (by decide) ?_
            obtain rfl := Option.some.inj hf
            refine W.mono9 (MQ.mono9 (fun oc t h => ⟨_, Or.inl rfl, h⟩)) ?_
            refine W.widen (k := 1) (n := 6) (Nat.le_of_ble_eq_true rfl) (Nat.le_of_ble_eq_true rfl) ?_
            exact mm_zret S hR hS hr hlocks (Or.inl rfl) dL_act_401
          · have hf := it_t hf c249
            refine lv_iload S.1 S.2.1 dL_act_357 (lv_at hl 0 rfl) ?_
            refine lv_iconst (v := 1) S.1 S.2.1 dL_act_359 (by decide) ?_
            refine lv_iload_n S.1 S.2.1 dL_act_360 rfl (lv_at hl 5 rfl) ?_
            refine lv_iconst (v := 4) S.1 S.2.1 dL_act_361 (by decide) ?_
            refine lv_ishr S.1 S.2.1 dL_act_362 ?_
            refine lv_bipush (v := 12) S.1 S.2.1 dL_act_363 (by decide) ?_
            obtain ⟨y250, hy250, hf⟩ := bd hf
            refine mm_callSi S hR hS hA (As := [.int (x1 >>> (4 &&& 31)), .int 12]) (rest := [.int 1, .int y247.2.1]) csL_25 (kL_below_c l G A hy250) rfl rfl ⟨Nat.le_of_ble_eq_true rfl, Nat.le_of_ble_eq_true rfl⟩ rfl hl.1 rfl (lv_room (by simp [rf_cat, int_cat, long_cat])) dL_act_365 ⟨Nat.le_of_ble_eq_true rfl, Nat.le_of_ble_eq_true rfl⟩ (fun H locs hR hS => ?_)
            have hK : mmKN μ y250.2 := hK.tr (kL_below_kn hy250)
            refine lv_iadd S.1 S.2.1 dL_act_368 ?_
            refine lv_icmp_gt (tgt := 400) S.1 S.2.1 dL_act_369 (by decide) (fun c251 => ?_) (fun c251 => ?_)
            · have hf := it_t hf c251
              refine lv_iconst (v := 0) S.1 S.2.1 dL_act_400 (by decide) ?_
              obtain rfl := Option.some.inj hf
              refine W.mono9 (MQ.mono9 (fun oc t h => ⟨_, Or.inl rfl, h⟩)) ?_
              refine W.widen (k := 1) (n := 6) (Nat.le_of_ble_eq_true rfl) (Nat.le_of_ble_eq_true rfl) ?_
              exact mm_zret S hR hS hr hlocks (Or.inl rfl) dL_act_401
            · have hf := it_f hf c251
              refine lv_iload S.1 S.2.1 dL_act_372 (lv_at hl 0 rfl) ?_
              refine lv_iconst (v := 1) S.1 S.2.1 dL_act_374 (by decide) ?_
              refine lv_iload_n S.1 S.2.1 dL_act_375 rfl (lv_at hl 5 rfl) ?_
              refine lv_iconst (v := 4) S.1 S.2.1 dL_act_376 (by decide) ?_
              refine lv_ishr S.1 S.2.1 dL_act_377 ?_
              refine lv_bipush (v := 12) S.1 S.2.1 dL_act_378 (by decide) ?_
              obtain ⟨y252, hy252, hf⟩ := bd hf
              refine mm_callSi S hR hS hA (As := [.int (x1 >>> (4 &&& 31)), .int 12]) (rest := [.int 1, .int y247.2.1]) csL_25 (kL_below_c l G A hy252) rfl rfl ⟨Nat.le_of_ble_eq_true rfl, Nat.le_of_ble_eq_true rfl⟩ rfl hl.1 rfl (lv_room (by simp [rf_cat, int_cat, long_cat])) dL_act_380 ⟨Nat.le_of_ble_eq_true rfl, Nat.le_of_ble_eq_true rfl⟩ (fun H locs hR hS => ?_)
              have hK : mmKN μ y252.2 := hK.tr (kL_below_kn hy252)
              refine lv_iadd S.1 S.2.1 dL_act_383 ?_
              refine lv_icmp_eq (tgt := 396) S.1 S.2.1 dL_act_384 (by decide) (fun c253 => ?_) (fun c253 => ?_)
              · have hf := it_t hf c253
                refine lv_iconst (v := 1) S.1 S.2.1 dL_act_396 (by decide) ?_
                refine lv_goto (tgt := 401) S.1 S.2.1 dL_act_397 (by decide) ?_
                obtain rfl := Option.some.inj hf
                refine W.mono9 (MQ.mono9 (fun oc t h => ⟨_, Or.inl rfl, h⟩)) ?_
                refine W.widen (k := 1) (n := 6) (Nat.le_of_ble_eq_true rfl) (Nat.le_of_ble_eq_true rfl) ?_
                exact mm_zret S hR hS hr hlocks (Or.inr rfl) dL_act_401
              · have hf := it_f hf c253
                refine mm_aload_n S dL_act_387 rfl (lv_at hl 4 rfl) ?_
                refine lv_bipush (v := 8) S.1 S.2.1 dL_act_388 (by decide) ?_
                obtain ⟨y254, hy254, hf⟩ := bd hf
                rcases it_or hf with ⟨c256, hf⟩ | ⟨c256, hf⟩
                · refine mm_callVi S hR hS hA (As := [.int 8]) (rest := []) cvL_39 (hK.k g3) (kX6_many_c l G A (hK.k g3) hy254 c256) rfl rfl ⟨Nat.le_of_ble_eq_true rfl, Nat.le_of_ble_eq_true rfl⟩ rfl hl.1 rfl (lv_room (by simp [rf_cat, int_cat, long_cat])) dL_act_390 ⟨Nat.zero_le _, Nat.zero_le _⟩ (fun H locs hR hS => ?_)
                  have hK : mmKN μ y254.2.2 := hK.tr (kX6_many_kn hy254)
                  refine lv_if_ne (tgt := 400) S.1 S.2.1 dL_act_393 (by decide) (fun c255 => ?_) (fun c255 => ?_)
                  · have hf := it_f hf c255
                    refine lv_iconst (v := 0) S.1 S.2.1 dL_act_400 (by decide) ?_
                    obtain rfl := Option.some.inj hf
                    refine W.mono9 (MQ.mono9 (fun oc t h => ⟨_, Or.inl rfl, h⟩)) ?_
                    refine W.widen (k := 1) (n := 6) (Nat.le_of_ble_eq_true rfl) (Nat.le_of_ble_eq_true rfl) ?_
                    exact mm_zret S hR hS hr hlocks (Or.inl rfl) dL_act_401
                  · have hf := it_t hf c255
                    refine lv_iconst (v := 1) S.1 S.2.1 dL_act_396 (by decide) ?_
                    refine lv_goto (tgt := 401) S.1 S.2.1 dL_act_397 (by decide) ?_
                    obtain rfl := Option.some.inj hf
                    refine W.mono9 (MQ.mono9 (fun oc t h => ⟨_, Or.inl rfl, h⟩)) ?_
                    refine W.widen (k := 1) (n := 6) (Nat.le_of_ble_eq_true rfl) (Nat.le_of_ble_eq_true rfl) ?_
                    exact mm_zret S hR hS hr hlocks (Or.inr rfl) dL_act_401
                rcases it_or hf with ⟨c257, hf⟩ | ⟨c257, hf⟩
                · skip
                  obtain rfl := Option.some.inj hf
                  have hnx : ¬ y254.1 = 0 := c256
                  have hM9 := kX6_many_x l hl0 G A (hK.k g3) hy254 hnx
                  rw [show exn y254.1 = "java/lang/IndexOutOfBoundsException" from by rw [c257]; decide +kernel] at hM9
                  refine mm_catchV S hR hS hA hX (As := [.int 8]) (rest := []) cvL_39 (hK.k g3) hM9 rfl rfl ⟨Nat.le_of_ble_eq_true rfl, Nat.le_of_ble_eq_true rfl⟩ rfl hl.1 rfl (lv_room (by simp [rf_cat, int_cat, long_cat])) dL_act_390 ⟨Nat.le_of_ble_eq_true rfl, Nat.le_of_ble_eq_true rfl⟩ (tableOf (hhAct.take 5)) ⟨319, 401, 552, 100⟩ (tableOf (hhAct.drop 6)) (by rw [htab]; rfl) (fun z hz => Or.inl ((by decide : ∀ z ∈ (tableOf (hhAct.take 5)), covers z 390 = false) z hz)) rfl (by decide) wlI wcI (fun q9 H9 locs hR9 hS hz9 => ?_)
                  have hK9 : mmKN μ y254.2.2 := hK.tr (kX6_many_kn hy254)
                  obtain ⟨r9, hr9⟩ := hz _ rfl (H9.size + 1) (by have h1 := hR.1.2; rw [hK.2.2] at h1; omega)
                  refine W.mono9 (MQ.mono9 (fun oc t h => ⟨r9, Or.inr ⟨_, _, rfl, by have h1 := hR.1.2; rw [hK.2.2] at h1; omega, hr9⟩, h⟩)) ?_
                  refine lv_astore (i := 4) (lv' := [(4, .ref q9), (9, .int y247.2.1), (8, .int y245.2.1), (3, .int y4.1), (2, .int y1.2.1), (0, rf h0), (1, .int x1)]) S.1 S.2.1 dL_act_552 hl (by decide) (by simp [rf_cat, int_cat]) (fun ls hl => ?_)
                  exact wbL_act_554 E0 h0 x1 y1.2.1 _ hr9 _ _ _ hR9 hS (lv_sub hl [5, 6, 4] rfl)
                obtain ⟨c258, hf⟩ := gd hf
                obtain rfl := Option.some.inj hf
                have hnx : ¬ y254.1 = 0 := c256
                have hM9 := kX6_many_x l hl0 G A (hK.k g3) hy254 hnx
                rw [show exn y254.1 = "java/lang/IllegalStateException" from by rw [c258]; decide +kernel] at hM9
                refine mm_catchV S hR hS hA hX (As := [.int 8]) (rest := []) cvL_39 (hK.k g3) hM9 rfl rfl ⟨Nat.le_of_ble_eq_true rfl, Nat.le_of_ble_eq_true rfl⟩ rfl hl.1 rfl (lv_room (by simp [rf_cat, int_cat, long_cat])) dL_act_390 ⟨Nat.le_of_ble_eq_true rfl, Nat.le_of_ble_eq_true rfl⟩ (tableOf (hhAct.take 13)) ⟨319, 401, 579, 102⟩ (tableOf (hhAct.drop 14)) (by rw [htab]; rfl) (act_pass S hN (by decide)) rfl (by decide) wlS wcS (fun q9 H9 locs hR9 hS hz9 => ?_)
                have hK9 : mmKN μ y254.2.2 := hK.tr (kX6_many_kn hy254)
                obtain ⟨r9, hr9⟩ := hz _ rfl (H9.size + 1) (by have h1 := hR.1.2; rw [hK.2.2] at h1; omega)
                refine W.mono9 (MQ.mono9 (fun oc t h => ⟨r9, Or.inr ⟨_, _, rfl, by have h1 := hR.1.2; rw [hK.2.2] at h1; omega, hr9⟩, h⟩)) ?_
                refine lv_astore (i := 4) (lv' := [(4, .ref q9), (9, .int y247.2.1), (8, .int y245.2.1), (3, .int y4.1), (2, .int y1.2.1), (0, rf h0), (1, .int x1)]) S.1 S.2.1 dL_act_579 hl (by decide) (by simp [rf_cat, int_cat]) (fun ls hl => ?_)
                exact wbL_act_581 E0 h0 x1 y1.2.1 y4.1 _ hr9 _ _ _ hR9 hS (lv_sub hl [5, 6, 4, 3] rfl)
        rcases it_or hf with ⟨c261, hf⟩ | ⟨c261, hf⟩
        · skip
          obtain rfl := Option.some.inj hf
          have hnx : ¬ y248.1 = 0 := c260
          have hM9 := kX6_many_x l hl0 G A (hK.k g3) hy248 hnx
          rw [show exn y248.1 = "java/lang/IndexOutOfBoundsException" from by rw [c261]; decide +kernel] at hM9
          refine mm_catchV S hR hS hA hX (As := [.int 11]) (rest := []) cvL_39 (hK.k g3) hM9 rfl rfl ⟨Nat.le_of_ble_eq_true rfl, Nat.le_of_ble_eq_true rfl⟩ rfl hl.1 rfl (lv_room (by simp [rf_cat, int_cat, long_cat])) dL_act_346 ⟨Nat.le_of_ble_eq_true rfl, Nat.le_of_ble_eq_true rfl⟩ (tableOf (hhAct.take 5)) ⟨319, 401, 552, 100⟩ (tableOf (hhAct.drop 6)) (by rw [htab]; rfl) (fun z hz => Or.inl ((by decide : ∀ z ∈ (tableOf (hhAct.take 5)), covers z 346 = false) z hz)) rfl (by decide) wlI wcI (fun q9 H9 locs hR9 hS hz9 => ?_)
          have hK9 : mmKN μ y248.2.2 := hK.tr (kX6_many_kn hy248)
          obtain ⟨r9, hr9⟩ := hz _ rfl (H9.size + 1) (by have h1 := hR.1.2; rw [hK.2.2] at h1; omega)
          refine W.mono9 (MQ.mono9 (fun oc t h => ⟨r9, Or.inr ⟨_, _, rfl, by have h1 := hR.1.2; rw [hK.2.2] at h1; omega, hr9⟩, h⟩)) ?_
          refine lv_astore (i := 4) (lv' := [(4, .ref q9), (9, .int y247.2.1), (8, .int y245.2.1), (3, .int y4.1), (2, .int y1.2.1), (0, rf h0), (1, .int x1)]) S.1 S.2.1 dL_act_552 hl (by decide) (by simp [rf_cat, int_cat]) (fun ls hl => ?_)
          exact wbL_act_554 E0 h0 x1 y1.2.1 _ hr9 _ _ _ hR9 hS (lv_sub hl [5, 6, 4] rfl)
        obtain ⟨c262, hf⟩ := gd hf
        obtain rfl := Option.some.inj hf
        have hnx : ¬ y248.1 = 0 := c260
        have hM9 := kX6_many_x l hl0 G A (hK.k g3) hy248 hnx
        rw [show exn y248.1 = "java/lang/IllegalStateException" from by rw [c262]; decide +kernel] at hM9
        refine mm_catchV S hR hS hA hX (As := [.int 11]) (rest := []) cvL_39 (hK.k g3) hM9 rfl rfl ⟨Nat.le_of_ble_eq_true rfl, Nat.le_of_ble_eq_true rfl⟩ rfl hl.1 rfl (lv_room (by simp [rf_cat, int_cat, long_cat])) dL_act_346 ⟨Nat.le_of_ble_eq_true rfl, Nat.le_of_ble_eq_true rfl⟩ (tableOf (hhAct.take 13)) ⟨319, 401, 579, 102⟩ (tableOf (hhAct.drop 14)) (by rw [htab]; rfl) (act_pass S hN (by decide)) rfl (by decide) wlS wcS (fun q9 H9 locs hR9 hS hz9 => ?_)
        have hK9 : mmKN μ y248.2.2 := hK.tr (kX6_many_kn hy248)
        obtain ⟨r9, hr9⟩ := hz _ rfl (H9.size + 1) (by have h1 := hR.1.2; rw [hK.2.2] at h1; omega)
        refine W.mono9 (MQ.mono9 (fun oc t h => ⟨r9, Or.inr ⟨_, _, rfl, by have h1 := hR.1.2; rw [hK.2.2] at h1; omega, hr9⟩, h⟩)) ?_
        refine lv_astore (i := 4) (lv' := [(4, .ref q9), (9, .int y247.2.1), (8, .int y245.2.1), (3, .int y4.1), (2, .int y1.2.1), (0, rf h0), (1, .int x1)]) S.1 S.2.1 dL_act_579 hl (by decide) (by simp [rf_cat, int_cat]) (fun ls hl => ?_)
        exact wbL_act_581 E0 h0 x1 y1.2.1 y4.1 _ hr9 _ _ _ hR9 hS (lv_sub hl [5, 6, 4, 3] rfl)
      rcases it_or hf with ⟨c265, hf⟩ | ⟨c265, hf⟩
      · skip
        obtain rfl := Option.some.inj hf
        have hnx : ¬ y247.1 = 0 := c264
        have hM9 := kX6_run_x l hl0 G A (hK.k g3) hy247 hnx
        rw [show exn y247.1 = "java/lang/IndexOutOfBoundsException" from by rw [c265]; decide +kernel] at hM9
        refine mm_catchV S hR hS hA hX (As := [.int (1 + y246.1)]) (rest := []) cvL_90 (hK.k g3) hM9 rfl rfl ⟨Nat.le_of_ble_eq_true rfl, Nat.le_of_ble_eq_true rfl⟩ rfl hl.1 rfl (lv_room (by simp [rf_cat, int_cat, long_cat])) dL_act_338 ⟨Nat.le_of_ble_eq_true rfl, Nat.le_of_ble_eq_true rfl⟩ (tableOf (hhAct.take 5)) ⟨319, 401, 552, 100⟩ (tableOf (hhAct.drop 6)) (by rw [htab]; rfl) (fun z hz => Or.inl ((by decide : ∀ z ∈ (tableOf (hhAct.take 5)), covers z 338 = false) z hz)) rfl (by decide) wlI wcI (fun q9 H9 locs hR9 hS hz9 => ?_)
        have hK9 : mmKN μ y247.2.2 := hK.tr (kX6_run_kn hy247)
        obtain ⟨r9, hr9⟩ := hz _ rfl (H9.size + 1) (by have h1 := hR.1.2; rw [hK.2.2] at h1; omega)
        refine W.mono9 (MQ.mono9 (fun oc t h => ⟨r9, Or.inr ⟨_, _, rfl, by have h1 := hR.1.2; rw [hK.2.2] at h1; omega, hr9⟩, h⟩)) ?_
        refine lv_astore (i := 4) (lv' := [(4, .ref q9), (8, .int y245.2.1), (3, .int y4.1), (2, .int y1.2.1), (0, rf h0), (1, .int x1)]) S.1 S.2.1 dL_act_552 hl (by decide) (by simp [rf_cat, int_cat]) (fun ls hl => ?_)
        exact wbL_act_554 E0 h0 x1 y1.2.1 _ hr9 _ _ _ hR9 hS (lv_sub hl [4, 5, 3] rfl)
      obtain ⟨c266, hf⟩ := gd hf
      obtain rfl := Option.some.inj hf
      have hnx : ¬ y247.1 = 0 := c264
      have hM9 := kX6_run_x l hl0 G A (hK.k g3) hy247 hnx
      rw [show exn y247.1 = "java/lang/IllegalStateException" from by rw [c266]; decide +kernel] at hM9
      refine mm_catchV S hR hS hA hX (As := [.int (1 + y246.1)]) (rest := []) cvL_90 (hK.k g3) hM9 rfl rfl ⟨Nat.le_of_ble_eq_true rfl, Nat.le_of_ble_eq_true rfl⟩ rfl hl.1 rfl (lv_room (by simp [rf_cat, int_cat, long_cat])) dL_act_338 ⟨Nat.le_of_ble_eq_true rfl, Nat.le_of_ble_eq_true rfl⟩ (tableOf (hhAct.take 13)) ⟨319, 401, 579, 102⟩ (tableOf (hhAct.drop 14)) (by rw [htab]; rfl) (act_pass S hN (by decide)) rfl (by decide) wlS wcS (fun q9 H9 locs hR9 hS hz9 => ?_)
      have hK9 : mmKN μ y247.2.2 := hK.tr (kX6_run_kn hy247)
      obtain ⟨r9, hr9⟩ := hz _ rfl (H9.size + 1) (by have h1 := hR.1.2; rw [hK.2.2] at h1; omega)
      refine W.mono9 (MQ.mono9 (fun oc t h => ⟨r9, Or.inr ⟨_, _, rfl, by have h1 := hR.1.2; rw [hK.2.2] at h1; omega, hr9⟩, h⟩)) ?_
      refine lv_astore (i := 4) (lv' := [(4, .ref q9), (8, .int y245.2.1), (3, .int y4.1), (2, .int y1.2.1), (0, rf h0), (1, .int x1)]) S.1 S.2.1 dL_act_579 hl (by decide) (by simp [rf_cat, int_cat]) (fun ls hl => ?_)
      exact wbL_act_581 E0 h0 x1 y1.2.1 y4.1 _ hr9 _ _ _ hR9 hS (lv_sub hl [4, 5, 3, 2] rfl)
    rcases it_or hf with ⟨c269, hf⟩ | ⟨c269, hf⟩
    · skip
      obtain rfl := Option.some.inj hf
      have hnx : ¬ y245.1 = 0 := c268
      have hM9 := kX6_many_x l hl0 G A (hK.k g3) hy245 hnx
      rw [show exn y245.1 = "java/lang/IndexOutOfBoundsException" from by rw [c269]; decide +kernel] at hM9
      refine mm_catchV S hR hS hA hX (As := [.int 11]) (rest := []) cvL_39 (hK.k g3) hM9 rfl rfl ⟨Nat.le_of_ble_eq_true rfl, Nat.le_of_ble_eq_true rfl⟩ rfl hl.1 rfl (lv_room (by simp [rf_cat, int_cat, long_cat])) dL_act_322 ⟨Nat.le_of_ble_eq_true rfl, Nat.le_of_ble_eq_true rfl⟩ (tableOf (hhAct.take 5)) ⟨319, 401, 552, 100⟩ (tableOf (hhAct.drop 6)) (by rw [htab]; rfl) (fun z hz => Or.inl ((by decide : ∀ z ∈ (tableOf (hhAct.take 5)), covers z 322 = false) z hz)) rfl (by decide) wlI wcI (fun q9 H9 locs hR9 hS hz9 => ?_)
      have hK9 : mmKN μ y245.2.2 := hK.tr (kX6_many_kn hy245)
      obtain ⟨r9, hr9⟩ := hz _ rfl (H9.size + 1) (by have h1 := hR.1.2; rw [hK.2.2] at h1; omega)
      refine W.mono9 (MQ.mono9 (fun oc t h => ⟨r9, Or.inr ⟨_, _, rfl, by have h1 := hR.1.2; rw [hK.2.2] at h1; omega, hr9⟩, h⟩)) ?_
      refine lv_astore (i := 4) (lv' := [(4, .ref q9), (3, .int y4.1), (2, .int y1.2.1), (0, rf h0), (1, .int x1)]) S.1 S.2.1 dL_act_552 hl (by decide) (by simp [rf_cat, int_cat]) (fun ls hl => ?_)
      exact wbL_act_554 E0 h0 x1 y1.2.1 _ hr9 _ _ _ hR9 hS (lv_sub hl [3, 4, 2] rfl)
    obtain ⟨c270, hf⟩ := gd hf
    obtain rfl := Option.some.inj hf
    have hnx : ¬ y245.1 = 0 := c268
    have hM9 := kX6_many_x l hl0 G A (hK.k g3) hy245 hnx
    rw [show exn y245.1 = "java/lang/IllegalStateException" from by rw [c270]; decide +kernel] at hM9
    refine mm_catchV S hR hS hA hX (As := [.int 11]) (rest := []) cvL_39 (hK.k g3) hM9 rfl rfl ⟨Nat.le_of_ble_eq_true rfl, Nat.le_of_ble_eq_true rfl⟩ rfl hl.1 rfl (lv_room (by simp [rf_cat, int_cat, long_cat])) dL_act_322 ⟨Nat.le_of_ble_eq_true rfl, Nat.le_of_ble_eq_true rfl⟩ (tableOf (hhAct.take 13)) ⟨319, 401, 579, 102⟩ (tableOf (hhAct.drop 14)) (by rw [htab]; rfl) (act_pass S hN (by decide)) rfl (by decide) wlS wcS (fun q9 H9 locs hR9 hS hz9 => ?_)
    have hK9 : mmKN μ y245.2.2 := hK.tr (kX6_many_kn hy245)
    obtain ⟨r9, hr9⟩ := hz _ rfl (H9.size + 1) (by have h1 := hR.1.2; rw [hK.2.2] at h1; omega)
    refine W.mono9 (MQ.mono9 (fun oc t h => ⟨r9, Or.inr ⟨_, _, rfl, by have h1 := hR.1.2; rw [hK.2.2] at h1; omega, hr9⟩, h⟩)) ?_
    refine lv_astore (i := 4) (lv' := [(4, .ref q9), (3, .int y4.1), (2, .int y1.2.1), (0, rf h0), (1, .int x1)]) S.1 S.2.1 dL_act_579 hl (by decide) (by simp [rf_cat, int_cat]) (fun ls hl => ?_)
    exact wbL_act_581 E0 h0 x1 y1.2.1 y4.1 _ hr9 _ _ _ hR9 hS (lv_sub hl [3, 4, 2, 1] rfl)
  rcases it_or hf with ⟨c272, hf⟩ | ⟨c272, hf⟩
  · refine mm_swL (tgt := 402) (off := 378) S [11] dL_act_24 (by simpa using c272) (by decide) (by decide) ?_
    refine mm_aload_n S dL_act_402 rfl (lv_at hl 2 rfl) ?_
    refine lv_bipush (v := 9) S.1 S.2.1 dL_act_403 (by decide) ?_
    obtain ⟨y273, hy273, hf⟩ := bd hf
    rcases it_or hf with ⟨c298, hf⟩ | ⟨c298, hf⟩
    · refine mm_callVi S hR hS hA (As := [.int 9]) (rest := []) cvL_39 (hK.k g3) (kX6_many_c l G A (hK.k g3) hy273 c298) rfl rfl ⟨Nat.le_of_ble_eq_true rfl, Nat.le_of_ble_eq_true rfl⟩ rfl hl.1 rfl (lv_room (by simp [rf_cat, int_cat, long_cat])) dL_act_405 ⟨Nat.zero_le _, Nat.zero_le _⟩ (fun H locs hR hS => ?_)
      have hK : mmKN μ y273.2.2 := hK.tr (kX6_many_kn hy273)
      refine lv_istore (i := 10) (lv' := [(10, .int y273.2.1), (3, .int y4.1), (2, .int y1.2.1), (0, rf h0), (1, .int x1)]) S.1 S.2.1 dL_act_408 hl (by decide) rfl (fun ls hl => ?_)
      refine mm_aload_n S dL_act_410 rfl (lv_at hl 3 rfl) ?_
      refine lv_bipush (v := 8) S.1 S.2.1 dL_act_411 (by decide) ?_
      obtain ⟨y274, hy274, hf⟩ := bd hf
      rcases it_or hf with ⟨c294, hf⟩ | ⟨c294, hf⟩
      · refine mm_callVi S hR hS hA (As := [.int 8]) (rest := []) cvL_39 (hK.k g3) (kX6_many_c l G A (hK.k g3) hy274 c294) rfl rfl ⟨Nat.le_of_ble_eq_true rfl, Nat.le_of_ble_eq_true rfl⟩ rfl hl.1 rfl (lv_room (by simp [rf_cat, int_cat, long_cat])) dL_act_413 ⟨Nat.zero_le _, Nat.zero_le _⟩ (fun H locs hR hS => ?_)
        have hK : mmKN μ y274.2.2 := hK.tr (kX6_many_kn hy274)
        refine lv_istore (i := 11) (lv' := [(11, .int y274.2.1), (10, .int y273.2.1), (3, .int y4.1), (2, .int y1.2.1), (0, rf h0), (1, .int x1)]) S.1 S.2.1 dL_act_416 hl (by decide) rfl (fun ls hl => ?_)
        refine mm_aload_n S dL_act_418 rfl (lv_at hl 4 rfl) ?_
        refine lv_iconst (v := 1) S.1 S.2.1 dL_act_419 (by decide) ?_
        refine lv_iload_n S.1 S.2.1 dL_act_420 rfl (lv_at hl 5 rfl) ?_
        refine lv_iconst (v := 4) S.1 S.2.1 dL_act_421 (by decide) ?_
        refine lv_ishr S.1 S.2.1 dL_act_422 ?_
        refine lv_iconst (v := 4) S.1 S.2.1 dL_act_423 (by decide) ?_
        obtain ⟨y275, hy275, hf⟩ := bd hf
        refine mm_callSi S hR hS hA (As := [.int (x1 >>> (4 &&& 31)), .int 4]) (rest := [.int 1, rf h0]) csL_25 (kL_below_c l G A hy275) rfl rfl ⟨Nat.le_of_ble_eq_true rfl, Nat.le_of_ble_eq_true rfl⟩ rfl hl.1 rfl (lv_room (by simp [rf_cat, int_cat, long_cat])) dL_act_424 ⟨Nat.le_of_ble_eq_true rfl, Nat.le_of_ble_eq_true rfl⟩ (fun H locs hR hS => ?_)
        have hK : mmKN μ y275.2 := hK.tr (kL_below_kn hy275)
        refine lv_iadd S.1 S.2.1 dL_act_427 ?_
        obtain ⟨y276, hy276, hf⟩ := bd hf
        rcases it_or hf with ⟨c290, hf⟩ | ⟨c290, hf⟩
        · refine mm_callVi S hR hS hA (As := [.int (1 + y275.1)]) (rest := []) cvL_93 (hK.k g3) (kX6_tick_c l G A (hK.k g3) hy276 c290) rfl rfl ⟨Nat.le_of_ble_eq_true rfl, Nat.le_of_ble_eq_true rfl⟩ rfl hl.1 rfl (lv_room (by simp [rf_cat, int_cat, long_cat])) dL_act_428 ⟨Nat.zero_le _, Nat.zero_le _⟩ (fun H locs hR hS => ?_)
          have hK : mmKN μ y276.2.2 := hK.tr (kX6_tick_kn hy276)
          refine lv_istore (i := 12) (lv' := [(12, .int y276.2.1), (11, .int y274.2.1), (10, .int y273.2.1), (3, .int y4.1), (2, .int y1.2.1), (0, rf h0), (1, .int x1)]) S.1 S.2.1 dL_act_431 hl (by decide) rfl (fun ls hl => ?_)
          refine mm_aload_n S dL_act_433 rfl (lv_at hl 5 rfl) ?_
          refine lv_bipush (v := 9) S.1 S.2.1 dL_act_434 (by decide) ?_
          obtain ⟨y277, hy277, hf⟩ := bd hf
          rcases it_or hf with ⟨c286, hf⟩ | ⟨c286, hf⟩
          · refine mm_callVi S hR hS hA (As := [.int 9]) (rest := []) cvL_39 (hK.k g3) (kX6_many_c l G A (hK.k g3) hy277 c286) rfl rfl ⟨Nat.le_of_ble_eq_true rfl, Nat.le_of_ble_eq_true rfl⟩ rfl hl.1 rfl (lv_room (by simp [rf_cat, int_cat, long_cat])) dL_act_436 ⟨Nat.zero_le _, Nat.zero_le _⟩ (fun H locs hR hS => ?_)
            have hK : mmKN μ y277.2.2 := hK.tr (kX6_many_kn hy277)
            refine lv_iload S.1 S.2.1 dL_act_439 (lv_at hl 2 rfl) ?_
            refine lv_iconst (v := 1) S.1 S.2.1 dL_act_441 (by decide) ?_
            refine lv_iadd S.1 S.2.1 dL_act_442 ?_
            refine lv_iload_n S.1 S.2.1 dL_act_443 rfl (lv_at hl 6 rfl) ?_
            refine lv_iconst (v := 4) S.1 S.2.1 dL_act_444 (by decide) ?_
            refine lv_ishr S.1 S.2.1 dL_act_445 ?_
            refine lv_iconst (v := 4) S.1 S.2.1 dL_act_446 (by decide) ?_
            obtain ⟨y278, hy278, hf⟩ := bd hf
            refine mm_callSi S hR hS hA (As := [.int (x1 >>> (4 &&& 31)), .int 4]) (rest := [.int (y273.2.1 + 1), .int y277.2.1]) csL_25 (kL_below_c l G A hy278) rfl rfl ⟨Nat.le_of_ble_eq_true rfl, Nat.le_of_ble_eq_true rfl⟩ rfl hl.1 rfl (lv_room (by simp [rf_cat, int_cat, long_cat])) dL_act_447 ⟨Nat.le_of_ble_eq_true rfl, Nat.le_of_ble_eq_true rfl⟩ (fun H locs hR hS => ?_)
            have hK : mmKN μ y278.2 := hK.tr (kL_below_kn hy278)
            refine lv_iadd S.1 S.2.1 dL_act_450 ?_
            refine lv_icmp_ne (tgt := 472) S.1 S.2.1 dL_act_451 (by decide) (fun c279 => ?_) (fun c279 => ?_)
            · have hf := it_f hf c279
              refine lv_iconst (v := 0) S.1 S.2.1 dL_act_472 (by decide) ?_
              obtain rfl := Option.some.inj hf
              refine W.mono9 (MQ.mono9 (fun oc t h => ⟨_, Or.inl rfl, h⟩)) ?_
              refine W.widen (k := 1) (n := 6) (Nat.le_of_ble_eq_true rfl) (Nat.le_of_ble_eq_true rfl) ?_
              exact mm_zret S hR hS hr hlocks (Or.inl rfl) dL_act_473
            · have hf := it_t hf c279
              refine mm_aload_n S dL_act_454 rfl (lv_at hl 5 rfl) ?_
              refine lv_bipush (v := 8) S.1 S.2.1 dL_act_455 (by decide) ?_
              obtain ⟨y280, hy280, hf⟩ := bd hf
              rcases it_or hf with ⟨c282, hf⟩ | ⟨c282, hf⟩
              · refine mm_callVi S hR hS hA (As := [.int 8]) (rest := []) cvL_39 (hK.k g3) (kX6_many_c l G A (hK.k g3) hy280 c282) rfl rfl ⟨Nat.le_of_ble_eq_true rfl, Nat.le_of_ble_eq_true rfl⟩ rfl hl.1 rfl (lv_room (by simp [rf_cat, int_cat, long_cat])) dL_act_457 ⟨Nat.zero_le _, Nat.zero_le _⟩ (fun H locs hR hS => ?_)
                have hK : mmKN μ y280.2.2 := hK.tr (kX6_many_kn hy280)
                refine lv_iload S.1 S.2.1 dL_act_460 (lv_at hl 1 rfl) ?_
                refine lv_iload S.1 S.2.1 dL_act_462 (lv_at hl 0 rfl) ?_
                refine lv_iadd S.1 S.2.1 dL_act_464 ?_
                refine lv_icmp_ne (tgt := 472) S.1 S.2.1 dL_act_465 (by decide) (fun c281 => ?_) (fun c281 => ?_)
                · have hf := it_f hf c281
                  refine lv_iconst (v := 0) S.1 S.2.1 dL_act_472 (by decide) ?_
                  obtain rfl := Option.some.inj hf
                  refine W.mono9 (MQ.mono9 (fun oc t h => ⟨_, Or.inl rfl, h⟩)) ?_
                  refine W.widen (k := 1) (n := 6) (Nat.le_of_ble_eq_true rfl) (Nat.le_of_ble_eq_true rfl) ?_
                  exact mm_zret S hR hS hr hlocks (Or.inl rfl) dL_act_473
                · have hf := it_t hf c281
                  refine lv_iconst (v := 1) S.1 S.2.1 dL_act_468 (by decide) ?_
                  refine lv_goto (tgt := 473) S.1 S.2.1 dL_act_469 (by decide) ?_
                  obtain rfl := Option.some.inj hf
                  refine W.mono9 (MQ.mono9 (fun oc t h => ⟨_, Or.inl rfl, h⟩)) ?_
                  refine W.widen (k := 1) (n := 6) (Nat.le_of_ble_eq_true rfl) (Nat.le_of_ble_eq_true rfl) ?_
                  exact mm_zret S hR hS hr hlocks (Or.inr rfl) dL_act_473
              rcases it_or hf with ⟨c283, hf⟩ | ⟨c283, hf⟩
              · skip
                obtain rfl := Option.some.inj hf
                have hnx : ¬ y280.1 = 0 := c282
                have hM9 := kX6_many_x l hl0 G A (hK.k g3) hy280 hnx
                rw [show exn y280.1 = "java/lang/IndexOutOfBoundsException" from by rw [c283]; decide +kernel] at hM9
                refine mm_catchV S hR hS hA hX (As := [.int 8]) (rest := []) cvL_39 (hK.k g3) hM9 rfl rfl ⟨Nat.le_of_ble_eq_true rfl, Nat.le_of_ble_eq_true rfl⟩ rfl hl.1 rfl (lv_room (by simp [rf_cat, int_cat, long_cat])) dL_act_457 ⟨Nat.le_of_ble_eq_true rfl, Nat.le_of_ble_eq_true rfl⟩ (tableOf (hhAct.take 6)) ⟨402, 473, 552, 100⟩ (tableOf (hhAct.drop 7)) (by rw [htab]; rfl) (fun z hz => Or.inl ((by decide : ∀ z ∈ (tableOf (hhAct.take 6)), covers z 457 = false) z hz)) rfl (by decide) wlI wcI (fun q9 H9 locs hR9 hS hz9 => ?_)
                have hK9 : mmKN μ y280.2.2 := hK.tr (kX6_many_kn hy280)
                obtain ⟨r9, hr9⟩ := hz _ rfl (H9.size + 1) (by have h1 := hR.1.2; rw [hK.2.2] at h1; omega)
                refine W.mono9 (MQ.mono9 (fun oc t h => ⟨r9, Or.inr ⟨_, _, rfl, by have h1 := hR.1.2; rw [hK.2.2] at h1; omega, hr9⟩, h⟩)) ?_
                refine lv_astore (i := 4) (lv' := [(4, .ref q9), (12, .int y276.2.1), (11, .int y274.2.1), (10, .int y273.2.1), (3, .int y4.1), (2, .int y1.2.1), (0, rf h0), (1, .int x1)]) S.1 S.2.1 dL_act_552 hl (by decide) (by simp [rf_cat, int_cat]) (fun ls hl => ?_)
                exact wbL_act_554 E0 h0 x1 y1.2.1 _ hr9 _ _ _ hR9 hS (lv_sub hl [6, 7, 5] rfl)
              obtain ⟨c284, hf⟩ := gd hf
              obtain rfl := Option.some.inj hf
              have hnx : ¬ y280.1 = 0 := c282
              have hM9 := kX6_many_x l hl0 G A (hK.k g3) hy280 hnx
              rw [show exn y280.1 = "java/lang/IllegalStateException" from by rw [c284]; decide +kernel] at hM9
              refine mm_catchV S hR hS hA hX (As := [.int 8]) (rest := []) cvL_39 (hK.k g3) hM9 rfl rfl ⟨Nat.le_of_ble_eq_true rfl, Nat.le_of_ble_eq_true rfl⟩ rfl hl.1 rfl (lv_room (by simp [rf_cat, int_cat, long_cat])) dL_act_457 ⟨Nat.le_of_ble_eq_true rfl, Nat.le_of_ble_eq_true rfl⟩ (tableOf (hhAct.take 14)) ⟨402, 473, 579, 102⟩ (tableOf (hhAct.drop 15)) (by rw [htab]; rfl) (act_pass S hN (by decide)) rfl (by decide) wlS wcS (fun q9 H9 locs hR9 hS hz9 => ?_)
              have hK9 : mmKN μ y280.2.2 := hK.tr (kX6_many_kn hy280)
              obtain ⟨r9, hr9⟩ := hz _ rfl (H9.size + 1) (by have h1 := hR.1.2; rw [hK.2.2] at h1; omega)
              refine W.mono9 (MQ.mono9 (fun oc t h => ⟨r9, Or.inr ⟨_, _, rfl, by have h1 := hR.1.2; rw [hK.2.2] at h1; omega, hr9⟩, h⟩)) ?_
              refine lv_astore (i := 4) (lv' := [(4, .ref q9), (12, .int y276.2.1), (11, .int y274.2.1), (10, .int y273.2.1), (3, .int y4.1), (2, .int y1.2.1), (0, rf h0), (1, .int x1)]) S.1 S.2.1 dL_act_579 hl (by decide) (by simp [rf_cat, int_cat]) (fun ls hl => ?_)
              exact wbL_act_581 E0 h0 x1 y1.2.1 y4.1 _ hr9 _ _ _ hR9 hS (lv_sub hl [6, 7, 5, 4] rfl)
          rcases it_or hf with ⟨c287, hf⟩ | ⟨c287, hf⟩
          · skip
            obtain rfl := Option.some.inj hf
            have hnx : ¬ y277.1 = 0 := c286
            have hM9 := kX6_many_x l hl0 G A (hK.k g3) hy277 hnx
            rw [show exn y277.1 = "java/lang/IndexOutOfBoundsException" from by rw [c287]; decide +kernel] at hM9
            refine mm_catchV S hR hS hA hX (As := [.int 9]) (rest := []) cvL_39 (hK.k g3) hM9 rfl rfl ⟨Nat.le_of_ble_eq_true rfl, Nat.le_of_ble_eq_true rfl⟩ rfl hl.1 rfl (lv_room (by simp [rf_cat, int_cat, long_cat])) dL_act_436 ⟨Nat.le_of_ble_eq_true rfl, Nat.le_of_ble_eq_true rfl⟩ (tableOf (hhAct.take 6)) ⟨402, 473, 552, 100⟩ (tableOf (hhAct.drop 7)) (by rw [htab]; rfl) (fun z hz => Or.inl ((by decide : ∀ z ∈ (tableOf (hhAct.take 6)), covers z 436 = false) z hz)) rfl (by decide) wlI wcI (fun q9 H9 locs hR9 hS hz9 => ?_)
            have hK9 : mmKN μ y277.2.2 := hK.tr (kX6_many_kn hy277)
            obtain ⟨r9, hr9⟩ := hz _ rfl (H9.size + 1) (by have h1 := hR.1.2; rw [hK.2.2] at h1; omega)
            refine W.mono9 (MQ.mono9 (fun oc t h => ⟨r9, Or.inr ⟨_, _, rfl, by have h1 := hR.1.2; rw [hK.2.2] at h1; omega, hr9⟩, h⟩)) ?_
            refine lv_astore (i := 4) (lv' := [(4, .ref q9), (12, .int y276.2.1), (11, .int y274.2.1), (10, .int y273.2.1), (3, .int y4.1), (2, .int y1.2.1), (0, rf h0), (1, .int x1)]) S.1 S.2.1 dL_act_552 hl (by decide) (by simp [rf_cat, int_cat]) (fun ls hl => ?_)
            exact wbL_act_554 E0 h0 x1 y1.2.1 _ hr9 _ _ _ hR9 hS (lv_sub hl [6, 7, 5] rfl)
          obtain ⟨c288, hf⟩ := gd hf
          obtain rfl := Option.some.inj hf
          have hnx : ¬ y277.1 = 0 := c286
          have hM9 := kX6_many_x l hl0 G A (hK.k g3) hy277 hnx
          rw [show exn y277.1 = "java/lang/IllegalStateException" from by rw [c288]; decide +kernel] at hM9
          refine mm_catchV S hR hS hA hX (As := [.int 9]) (rest := []) cvL_39 (hK.k g3) hM9 rfl rfl ⟨Nat.le_of_ble_eq_true rfl, Nat.le_of_ble_eq_true rfl⟩ rfl hl.1 rfl (lv_room (by simp [rf_cat, int_cat, long_cat])) dL_act_436 ⟨Nat.le_of_ble_eq_true rfl, Nat.le_of_ble_eq_true rfl⟩ (tableOf (hhAct.take 14)) ⟨402, 473, 579, 102⟩ (tableOf (hhAct.drop 15)) (by rw [htab]; rfl) (act_pass S hN (by decide)) rfl (by decide) wlS wcS (fun q9 H9 locs hR9 hS hz9 => ?_)
          have hK9 : mmKN μ y277.2.2 := hK.tr (kX6_many_kn hy277)
          obtain ⟨r9, hr9⟩ := hz _ rfl (H9.size + 1) (by have h1 := hR.1.2; rw [hK.2.2] at h1; omega)
          refine W.mono9 (MQ.mono9 (fun oc t h => ⟨r9, Or.inr ⟨_, _, rfl, by have h1 := hR.1.2; rw [hK.2.2] at h1; omega, hr9⟩, h⟩)) ?_
          refine lv_astore (i := 4) (lv' := [(4, .ref q9), (12, .int y276.2.1), (11, .int y274.2.1), (10, .int y273.2.1), (3, .int y4.1), (2, .int y1.2.1), (0, rf h0), (1, .int x1)]) S.1 S.2.1 dL_act_579 hl (by decide) (by simp [rf_cat, int_cat]) (fun ls hl => ?_)
          exact wbL_act_581 E0 h0 x1 y1.2.1 y4.1 _ hr9 _ _ _ hR9 hS (lv_sub hl [6, 7, 5, 4] rfl)
        rcases it_or hf with ⟨c291, hf⟩ | ⟨c291, hf⟩
        · skip
          obtain rfl := Option.some.inj hf
          have hnx : ¬ y276.1 = 0 := c290
          have hM9 := kX6_tick_x l hl0 G A (hK.k g3) hy276 hnx
          rw [show exn y276.1 = "java/lang/IndexOutOfBoundsException" from by rw [c291]; decide +kernel] at hM9
          refine mm_catchV S hR hS hA hX (As := [.int (1 + y275.1)]) (rest := []) cvL_93 (hK.k g3) hM9 rfl rfl ⟨Nat.le_of_ble_eq_true rfl, Nat.le_of_ble_eq_true rfl⟩ rfl hl.1 rfl (lv_room (by simp [rf_cat, int_cat, long_cat])) dL_act_428 ⟨Nat.le_of_ble_eq_true rfl, Nat.le_of_ble_eq_true rfl⟩ (tableOf (hhAct.take 6)) ⟨402, 473, 552, 100⟩ (tableOf (hhAct.drop 7)) (by rw [htab]; rfl) (fun z hz => Or.inl ((by decide : ∀ z ∈ (tableOf (hhAct.take 6)), covers z 428 = false) z hz)) rfl (by decide) wlI wcI (fun q9 H9 locs hR9 hS hz9 => ?_)
          have hK9 : mmKN μ y276.2.2 := hK.tr (kX6_tick_kn hy276)
          obtain ⟨r9, hr9⟩ := hz _ rfl (H9.size + 1) (by have h1 := hR.1.2; rw [hK.2.2] at h1; omega)
          refine W.mono9 (MQ.mono9 (fun oc t h => ⟨r9, Or.inr ⟨_, _, rfl, by have h1 := hR.1.2; rw [hK.2.2] at h1; omega, hr9⟩, h⟩)) ?_
          refine lv_astore (i := 4) (lv' := [(4, .ref q9), (11, .int y274.2.1), (10, .int y273.2.1), (3, .int y4.1), (2, .int y1.2.1), (0, rf h0), (1, .int x1)]) S.1 S.2.1 dL_act_552 hl (by decide) (by simp [rf_cat, int_cat]) (fun ls hl => ?_)
          exact wbL_act_554 E0 h0 x1 y1.2.1 _ hr9 _ _ _ hR9 hS (lv_sub hl [5, 6, 4] rfl)
        obtain ⟨c292, hf⟩ := gd hf
        obtain rfl := Option.some.inj hf
        have hnx : ¬ y276.1 = 0 := c290
        have hM9 := kX6_tick_x l hl0 G A (hK.k g3) hy276 hnx
        rw [show exn y276.1 = "java/lang/IllegalStateException" from by rw [c292]; decide +kernel] at hM9
        refine mm_catchV S hR hS hA hX (As := [.int (1 + y275.1)]) (rest := []) cvL_93 (hK.k g3) hM9 rfl rfl ⟨Nat.le_of_ble_eq_true rfl, Nat.le_of_ble_eq_true rfl⟩ rfl hl.1 rfl (lv_room (by simp [rf_cat, int_cat, long_cat])) dL_act_428 ⟨Nat.le_of_ble_eq_true rfl, Nat.le_of_ble_eq_true rfl⟩ (tableOf (hhAct.take 14)) ⟨402, 473, 579, 102⟩ (tableOf (hhAct.drop 15)) (by rw [htab]; rfl) (act_pass S hN (by decide)) rfl (by decide) wlS wcS (fun q9 H9 locs hR9 hS hz9 => ?_)
        have hK9 : mmKN μ y276.2.2 := hK.tr (kX6_tick_kn hy276)
        obtain ⟨r9, hr9⟩ := hz _ rfl (H9.size + 1) (by have h1 := hR.1.2; rw [hK.2.2] at h1; omega)
        refine W.mono9 (MQ.mono9 (fun oc t h => ⟨r9, Or.inr ⟨_, _, rfl, by have h1 := hR.1.2; rw [hK.2.2] at h1; omega, hr9⟩, h⟩)) ?_
        refine lv_astore (i := 4) (lv' := [(4, .ref q9), (11, .int y274.2.1), (10, .int y273.2.1), (3, .int y4.1), (2, .int y1.2.1), (0, rf h0), (1, .int x1)]) S.1 S.2.1 dL_act_579 hl (by decide) (by simp [rf_cat, int_cat]) (fun ls hl => ?_)
        exact wbL_act_581 E0 h0 x1 y1.2.1 y4.1 _ hr9 _ _ _ hR9 hS (lv_sub hl [5, 6, 4, 3] rfl)
      rcases it_or hf with ⟨c295, hf⟩ | ⟨c295, hf⟩
      · skip
        obtain rfl := Option.some.inj hf
        have hnx : ¬ y274.1 = 0 := c294
        have hM9 := kX6_many_x l hl0 G A (hK.k g3) hy274 hnx
        rw [show exn y274.1 = "java/lang/IndexOutOfBoundsException" from by rw [c295]; decide +kernel] at hM9
        refine mm_catchV S hR hS hA hX (As := [.int 8]) (rest := []) cvL_39 (hK.k g3) hM9 rfl rfl ⟨Nat.le_of_ble_eq_true rfl, Nat.le_of_ble_eq_true rfl⟩ rfl hl.1 rfl (lv_room (by simp [rf_cat, int_cat, long_cat])) dL_act_413 ⟨Nat.le_of_ble_eq_true rfl, Nat.le_of_ble_eq_true rfl⟩ (tableOf (hhAct.take 6)) ⟨402, 473, 552, 100⟩ (tableOf (hhAct.drop 7)) (by rw [htab]; rfl) (fun z hz => Or.inl ((by decide : ∀ z ∈ (tableOf (hhAct.take 6)), covers z 413 = false) z hz)) rfl (by decide) wlI wcI (fun q9 H9 locs hR9 hS hz9 => ?_)
        have hK9 : mmKN μ y274.2.2 := hK.tr (kX6_many_kn hy274)
        obtain ⟨r9, hr9⟩ := hz _ rfl (H9.size + 1) (by have h1 := hR.1.2; rw [hK.2.2] at h1; omega)
        refine W.mono9 (MQ.mono9 (fun oc t h => ⟨r9, Or.inr ⟨_, _, rfl, by have h1 := hR.1.2; rw [hK.2.2] at h1; omega, hr9⟩, h⟩)) ?_
        refine lv_astore (i := 4) (lv' := [(4, .ref q9), (10, .int y273.2.1), (3, .int y4.1), (2, .int y1.2.1), (0, rf h0), (1, .int x1)]) S.1 S.2.1 dL_act_552 hl (by decide) (by simp [rf_cat, int_cat]) (fun ls hl => ?_)
        exact wbL_act_554 E0 h0 x1 y1.2.1 _ hr9 _ _ _ hR9 hS (lv_sub hl [4, 5, 3] rfl)
      obtain ⟨c296, hf⟩ := gd hf
      obtain rfl := Option.some.inj hf
      have hnx : ¬ y274.1 = 0 := c294
      have hM9 := kX6_many_x l hl0 G A (hK.k g3) hy274 hnx
      rw [show exn y274.1 = "java/lang/IllegalStateException" from by rw [c296]; decide +kernel] at hM9
      refine mm_catchV S hR hS hA hX (As := [.int 8]) (rest := []) cvL_39 (hK.k g3) hM9 rfl rfl ⟨Nat.le_of_ble_eq_true rfl, Nat.le_of_ble_eq_true rfl⟩ rfl hl.1 rfl (lv_room (by simp [rf_cat, int_cat, long_cat])) dL_act_413 ⟨Nat.le_of_ble_eq_true rfl, Nat.le_of_ble_eq_true rfl⟩ (tableOf (hhAct.take 14)) ⟨402, 473, 579, 102⟩ (tableOf (hhAct.drop 15)) (by rw [htab]; rfl) (act_pass S hN (by decide)) rfl (by decide) wlS wcS (fun q9 H9 locs hR9 hS hz9 => ?_)
      have hK9 : mmKN μ y274.2.2 := hK.tr (kX6_many_kn hy274)
      obtain ⟨r9, hr9⟩ := hz _ rfl (H9.size + 1) (by have h1 := hR.1.2; rw [hK.2.2] at h1; omega)
      refine W.mono9 (MQ.mono9 (fun oc t h => ⟨r9, Or.inr ⟨_, _, rfl, by have h1 := hR.1.2; rw [hK.2.2] at h1; omega, hr9⟩, h⟩)) ?_
      refine lv_astore (i := 4) (lv' := [(4, .ref q9), (10, .int y273.2.1), (3, .int y4.1), (2, .int y1.2.1), (0, rf h0), (1, .int x1)]) S.1 S.2.1 dL_act_579 hl (by decide) (by simp [rf_cat, int_cat]) (fun ls hl => ?_)
      exact wbL_act_581 E0 h0 x1 y1.2.1 y4.1 _ hr9 _ _ _ hR9 hS (lv_sub hl [4, 5, 3, 2] rfl)
    rcases it_or hf with ⟨c299, hf⟩ | ⟨c299, hf⟩
    · skip
      obtain rfl := Option.some.inj hf
      have hnx : ¬ y273.1 = 0 := c298
      have hM9 := kX6_many_x l hl0 G A (hK.k g3) hy273 hnx
      rw [show exn y273.1 = "java/lang/IndexOutOfBoundsException" from by rw [c299]; decide +kernel] at hM9
      refine mm_catchV S hR hS hA hX (As := [.int 9]) (rest := []) cvL_39 (hK.k g3) hM9 rfl rfl ⟨Nat.le_of_ble_eq_true rfl, Nat.le_of_ble_eq_true rfl⟩ rfl hl.1 rfl (lv_room (by simp [rf_cat, int_cat, long_cat])) dL_act_405 ⟨Nat.le_of_ble_eq_true rfl, Nat.le_of_ble_eq_true rfl⟩ (tableOf (hhAct.take 6)) ⟨402, 473, 552, 100⟩ (tableOf (hhAct.drop 7)) (by rw [htab]; rfl) (fun z hz => Or.inl ((by decide : ∀ z ∈ (tableOf (hhAct.take 6)), covers z 405 = false) z hz)) rfl (by decide) wlI wcI (fun q9 H9 locs hR9 hS hz9 => ?_)
      have hK9 : mmKN μ y273.2.2 := hK.tr (kX6_many_kn hy273)
      obtain ⟨r9, hr9⟩ := hz _ rfl (H9.size + 1) (by have h1 := hR.1.2; rw [hK.2.2] at h1; omega)
      refine W.mono9 (MQ.mono9 (fun oc t h => ⟨r9, Or.inr ⟨_, _, rfl, by have h1 := hR.1.2; rw [hK.2.2] at h1; omega, hr9⟩, h⟩)) ?_
      refine lv_astore (i := 4) (lv' := [(4, .ref q9), (3, .int y4.1), (2, .int y1.2.1), (0, rf h0), (1, .int x1)]) S.1 S.2.1 dL_act_552 hl (by decide) (by simp [rf_cat, int_cat]) (fun ls hl => ?_)
      exact wbL_act_554 E0 h0 x1 y1.2.1 _ hr9 _ _ _ hR9 hS (lv_sub hl [3, 4, 2] rfl)
    obtain ⟨c300, hf⟩ := gd hf
    obtain rfl := Option.some.inj hf
    have hnx : ¬ y273.1 = 0 := c298
    have hM9 := kX6_many_x l hl0 G A (hK.k g3) hy273 hnx
    rw [show exn y273.1 = "java/lang/IllegalStateException" from by rw [c300]; decide +kernel] at hM9
    refine mm_catchV S hR hS hA hX (As := [.int 9]) (rest := []) cvL_39 (hK.k g3) hM9 rfl rfl ⟨Nat.le_of_ble_eq_true rfl, Nat.le_of_ble_eq_true rfl⟩ rfl hl.1 rfl (lv_room (by simp [rf_cat, int_cat, long_cat])) dL_act_405 ⟨Nat.le_of_ble_eq_true rfl, Nat.le_of_ble_eq_true rfl⟩ (tableOf (hhAct.take 14)) ⟨402, 473, 579, 102⟩ (tableOf (hhAct.drop 15)) (by rw [htab]; rfl) (act_pass S hN (by decide)) rfl (by decide) wlS wcS (fun q9 H9 locs hR9 hS hz9 => ?_)
    have hK9 : mmKN μ y273.2.2 := hK.tr (kX6_many_kn hy273)
    obtain ⟨r9, hr9⟩ := hz _ rfl (H9.size + 1) (by have h1 := hR.1.2; rw [hK.2.2] at h1; omega)
    refine W.mono9 (MQ.mono9 (fun oc t h => ⟨r9, Or.inr ⟨_, _, rfl, by have h1 := hR.1.2; rw [hK.2.2] at h1; omega, hr9⟩, h⟩)) ?_
    refine lv_astore (i := 4) (lv' := [(4, .ref q9), (3, .int y4.1), (2, .int y1.2.1), (0, rf h0), (1, .int x1)]) S.1 S.2.1 dL_act_579 hl (by decide) (by simp [rf_cat, int_cat]) (fun ls hl => ?_)
    exact wbL_act_581 E0 h0 x1 y1.2.1 y4.1 _ hr9 _ _ _ hR9 hS (lv_sub hl [3, 4, 2, 1] rfl)
  refine mm_swD (tgt := 474) S [0, 1, 2, 3, 4, 5, 6, 7, 8, 9, 10, 11] dL_act_24 (by simp only [List.forall_mem_cons, List.not_mem_nil, false_imp_iff, implies_true, and_true]; (try simp only [not_or] at c148 c168 c187 c202 c211 c244 c272); simp only [c148, c168, c187, c202, c211, c244, c272, not_false_eq_true, and_self, and_true, true_and]) (by decide) (by decide) ?_
  refine mm_aload_n S dL_act_474 rfl (lv_at hl 2 rfl) ?_
  refine lv_iload_n S.1 S.2.1 dL_act_475 rfl (lv_at hl 0 rfl) ?_
  refine lv_iconst (v := 1) S.1 S.2.1 dL_act_476 (by decide) ?_
  obtain ⟨y6, hy6, hf⟩ := bd hf
  rcases it_or hf with ⟨c144, hf⟩ | ⟨c144, hf⟩
  · refine mm_callVi S hR hS hA (As := [.int y4.1, .int 1]) (rest := []) cvL_43 (hK.k g3) (kX6_of_c l G A (hK.k g3) hy6 c144) rfl rfl ⟨Nat.le_of_ble_eq_true rfl, Nat.le_of_ble_eq_true rfl⟩ rfl hl.1 rfl (lv_room (by simp [rf_cat, int_cat, long_cat])) dL_act_477 ⟨Nat.zero_le _, Nat.zero_le _⟩ (fun H locs hR hS => ?_)
    have hK : mmKN μ y6.2.2 := hK.tr (kX6_of_kn hy6)
    refine lv_iconst (v := 2) S.1 S.2.1 dL_act_480 (by decide) ?_
    refine lv_icmp_le (tgt := 488) S.1 S.2.1 dL_act_481 (by decide) (fun c7 => ?_) (fun c7 => ?_)
    · have hf := it_t hf c7
      refine lv_iconst (v := 0) S.1 S.2.1 dL_act_488 (by decide) ?_
      refine lv_istore (i := 13) (lv' := [(13, .int 0), (3, .int y4.1), (2, .int y1.2.1), (0, rf h0), (1, .int x1)]) S.1 S.2.1 dL_act_489 hl (by decide) rfl (fun ls hl => ?_)
      refine mm_aload_n S dL_act_491 rfl (lv_at hl 3 rfl) ?_
      refine lv_iload_n S.1 S.2.1 dL_act_492 rfl (lv_at hl 1 rfl) ?_
      refine lv_iconst (v := 4) S.1 S.2.1 dL_act_493 (by decide) ?_
      obtain ⟨y8, hy8, hf⟩ := bd hf
      rcases it_or hf with ⟨c72, hf⟩ | ⟨c72, hf⟩
      · refine mm_callVi S hR hS hA (As := [.int y4.1, .int 4]) (rest := []) cvL_68 (hK.k g3) (kX6_ofTask_c l G A (hK.k g3) hy8 c72) rfl rfl ⟨Nat.le_of_ble_eq_true rfl, Nat.le_of_ble_eq_true rfl⟩ rfl hl.1 rfl (lv_room (by simp [rf_cat, int_cat, long_cat])) dL_act_494 ⟨Nat.zero_le _, Nat.zero_le _⟩ (fun H locs hR hS => ?_)
        have hK : mmKN μ y8.2.2 := hK.tr (kX6_ofTask_kn hy8)
        refine lv_iconst (v := 1) S.1 S.2.1 dL_act_497 (by decide) ?_
        refine lv_icmp_ne (tgt := 505) S.1 S.2.1 dL_act_498 (by decide) (fun c9 => ?_) (fun c9 => ?_)
        · have hf := it_f hf c9
          refine lv_iconst (v := 0) S.1 S.2.1 dL_act_505 (by decide) ?_
          refine lv_istore (i := 14) (lv' := [(14, .int 0), (13, .int 0), (3, .int y4.1), (2, .int y1.2.1), (0, rf h0), (1, .int x1)]) S.1 S.2.1 dL_act_506 hl (by decide) rfl (fun ls hl => ?_)
          refine mm_aload_n S dL_act_508 rfl (lv_at hl 4 rfl) ?_
          refine lv_iload_n S.1 S.2.1 dL_act_509 rfl (lv_at hl 2 rfl) ?_
          obtain ⟨y10, hy10, hf⟩ := bd hf
          rcases it_or hf with ⟨c37, hf⟩ | ⟨c37, hf⟩
          · refine mm_callVi S hR hS hA (As := [.int y4.1]) (rest := []) cvL_96 (hK.k g3) (kX6_cancel_c l G A (hK.k g3) hy10 c37) rfl rfl ⟨Nat.le_of_ble_eq_true rfl, Nat.le_of_ble_eq_true rfl⟩ rfl hl.1 rfl (lv_room (by simp [rf_cat, int_cat, long_cat])) dL_act_510 ⟨Nat.zero_le _, Nat.zero_le _⟩ (fun H locs hR hS => ?_)
            have hK : mmKN μ y10.2.2 := hK.tr (kX6_cancel_kn hy10)
            refine lv_iload S.1 S.2.1 dL_act_513 (lv_at hl 1 rfl) ?_
            refine lv_if_ne (tgt := 527) S.1 S.2.1 dL_act_515 (by decide) (fun c11 => ?_) (fun c11 => ?_)
            · have hf := it_f hf c11
              refine lv_iconst (v := 0) S.1 S.2.1 dL_act_527 (by decide) ?_
              refine lv_icmp_ne (tgt := 550) S.1 S.2.1 dL_act_528 (by decide) (fun c12 => ?_) (fun c12 => ?_)
              · have hf := it_f hf c12
                refine lv_iconst (v := 0) S.1 S.2.1 dL_act_550 (by decide) ?_
                obtain rfl := Option.some.inj hf
                refine W.mono9 (MQ.mono9 (fun oc t h => ⟨_, Or.inl rfl, h⟩)) ?_
                refine W.widen (k := 1) (n := 6) (Nat.le_of_ble_eq_true rfl) (Nat.le_of_ble_eq_true rfl) ?_
                exact mm_zret S hR hS hr hlocks (Or.inl rfl) dL_act_551
              · have hf := it_t hf c12
                refine lv_iload S.1 S.2.1 dL_act_531 (lv_at hl 1 rfl) ?_
                refine lv_if_ne (tgt := 546) S.1 S.2.1 dL_act_533 (by decide) (fun c13 => ?_) (fun c13 => ?_)
                · have hf := it_f hf c13
                  refine lv_iconst (v := 1) S.1 S.2.1 dL_act_546 (by decide) ?_
                  refine lv_goto (tgt := 551) S.1 S.2.1 dL_act_547 (by decide) ?_
                  obtain rfl := Option.some.inj hf
                  refine W.mono9 (MQ.mono9 (fun oc t h => ⟨_, Or.inl rfl, h⟩)) ?_
                  refine W.widen (k := 1) (n := 6) (Nat.le_of_ble_eq_true rfl) (Nat.le_of_ble_eq_true rfl) ?_
                  exact mm_zret S hR hS hr hlocks (Or.inr rfl) dL_act_551
                · have hf := it_t hf c13
                  refine mm_aload_n S dL_act_536 rfl (lv_at hl 4 rfl) ?_
                  refine lv_iload_n S.1 S.2.1 dL_act_537 rfl (lv_at hl 2 rfl) ?_
                  refine lv_iconst (v := 4) S.1 S.2.1 dL_act_538 (by decide) ?_
                  obtain ⟨y14, hy14, hf⟩ := bd hf
                  rcases it_or hf with ⟨c16, hf⟩ | ⟨c16, hf⟩
                  · refine mm_callVi S hR hS hA (As := [.int y4.1, .int 4]) (rest := []) cvL_68 (hK.k g3) (kX6_ofTask_c l G A (hK.k g3) hy14 c16) rfl rfl ⟨Nat.le_of_ble_eq_true rfl, Nat.le_of_ble_eq_true rfl⟩ rfl hl.1 rfl (lv_room (by simp [rf_cat, int_cat, long_cat])) dL_act_539 ⟨Nat.zero_le _, Nat.zero_le _⟩ (fun H locs hR hS => ?_)
                    have hK : mmKN μ y14.2.2 := hK.tr (kX6_ofTask_kn hy14)
                    refine lv_iconst (v := 1) S.1 S.2.1 dL_act_542 (by decide) ?_
                    refine lv_icmp_ne (tgt := 550) S.1 S.2.1 dL_act_543 (by decide) (fun c15 => ?_) (fun c15 => ?_)
                    · have hf := it_f hf c15
                      refine lv_iconst (v := 0) S.1 S.2.1 dL_act_550 (by decide) ?_
                      obtain rfl := Option.some.inj hf
                      refine W.mono9 (MQ.mono9 (fun oc t h => ⟨_, Or.inl rfl, h⟩)) ?_
                      refine W.widen (k := 1) (n := 6) (Nat.le_of_ble_eq_true rfl) (Nat.le_of_ble_eq_true rfl) ?_
                      exact mm_zret S hR hS hr hlocks (Or.inl rfl) dL_act_551
                    · have hf := it_t hf c15
                      refine lv_iconst (v := 1) S.1 S.2.1 dL_act_546 (by decide) ?_
                      refine lv_goto (tgt := 551) S.1 S.2.1 dL_act_547 (by decide) ?_
                      obtain rfl := Option.some.inj hf
                      refine W.mono9 (MQ.mono9 (fun oc t h => ⟨_, Or.inl rfl, h⟩)) ?_
                      refine W.widen (k := 1) (n := 6) (Nat.le_of_ble_eq_true rfl) (Nat.le_of_ble_eq_true rfl) ?_
                      exact mm_zret S hR hS hr hlocks (Or.inr rfl) dL_act_551
                  rcases it_or hf with ⟨c17, hf⟩ | ⟨c17, hf⟩
                  · skip
                    obtain rfl := Option.some.inj hf
                    have hnx : ¬ y14.1 = 0 := c16
                    have hM9 := kX6_ofTask_x l hl0 G A (hK.k g3) hy14 hnx
                    rw [show exn y14.1 = "java/lang/IndexOutOfBoundsException" from by rw [c17]; decide +kernel] at hM9
                    refine mm_catchV S hR hS hA hX (As := [.int y4.1, .int 4]) (rest := []) cvL_68 (hK.k g3) hM9 rfl rfl ⟨Nat.le_of_ble_eq_true rfl, Nat.le_of_ble_eq_true rfl⟩ rfl hl.1 rfl (lv_room (by simp [rf_cat, int_cat, long_cat])) dL_act_539 ⟨Nat.le_of_ble_eq_true rfl, Nat.le_of_ble_eq_true rfl⟩ (tableOf (hhAct.take 7)) ⟨474, 551, 552, 100⟩ (tableOf (hhAct.drop 8)) (by rw [htab]; rfl) (fun z hz => Or.inl ((by decide : ∀ z ∈ (tableOf (hhAct.take 7)), covers z 539 = false) z hz)) rfl (by decide) wlI wcI (fun q9 H9 locs hR9 hS hz9 => ?_)
                    have hK9 : mmKN μ y14.2.2 := hK.tr (kX6_ofTask_kn hy14)
                    obtain ⟨r9, hr9⟩ := hz _ rfl (H9.size + 1) (by have h1 := hR.1.2; rw [hK.2.2] at h1; omega)
                    refine W.mono9 (MQ.mono9 (fun oc t h => ⟨r9, Or.inr ⟨_, _, rfl, by have h1 := hR.1.2; rw [hK.2.2] at h1; omega, hr9⟩, h⟩)) ?_
                    refine lv_astore (i := 4) (lv' := [(4, .ref q9), (14, .int 0), (13, .int 0), (3, .int y4.1), (2, .int y1.2.1), (0, rf h0), (1, .int x1)]) S.1 S.2.1 dL_act_552 hl (by decide) (by simp [rf_cat, int_cat]) (fun ls hl => ?_)
                    exact wbL_act_554 E0 h0 x1 y1.2.1 _ hr9 _ _ _ hR9 hS (lv_sub hl [5, 6, 4] rfl)
                  obtain ⟨c18, hf⟩ := gd hf
                  obtain rfl := Option.some.inj hf
                  have hnx : ¬ y14.1 = 0 := c16
                  have hM9 := kX6_ofTask_x l hl0 G A (hK.k g3) hy14 hnx
                  rw [show exn y14.1 = "java/lang/IllegalStateException" from by rw [c18]; decide +kernel] at hM9
                  refine mm_catchV S hR hS hA hX (As := [.int y4.1, .int 4]) (rest := []) cvL_68 (hK.k g3) hM9 rfl rfl ⟨Nat.le_of_ble_eq_true rfl, Nat.le_of_ble_eq_true rfl⟩ rfl hl.1 rfl (lv_room (by simp [rf_cat, int_cat, long_cat])) dL_act_539 ⟨Nat.le_of_ble_eq_true rfl, Nat.le_of_ble_eq_true rfl⟩ (tableOf (hhAct.take 15)) ⟨474, 551, 579, 102⟩ (tableOf (hhAct.drop 16)) (by rw [htab]; rfl) (act_pass S hN (by decide)) rfl (by decide) wlS wcS (fun q9 H9 locs hR9 hS hz9 => ?_)
                  have hK9 : mmKN μ y14.2.2 := hK.tr (kX6_ofTask_kn hy14)
                  obtain ⟨r9, hr9⟩ := hz _ rfl (H9.size + 1) (by have h1 := hR.1.2; rw [hK.2.2] at h1; omega)
                  refine W.mono9 (MQ.mono9 (fun oc t h => ⟨r9, Or.inr ⟨_, _, rfl, by have h1 := hR.1.2; rw [hK.2.2] at h1; omega, hr9⟩, h⟩)) ?_
                  refine lv_astore (i := 4) (lv' := [(4, .ref q9), (14, .int 0), (13, .int 0), (3, .int y4.1), (2, .int y1.2.1), (0, rf h0), (1, .int x1)]) S.1 S.2.1 dL_act_579 hl (by decide) (by simp [rf_cat, int_cat]) (fun ls hl => ?_)
                  exact wbL_act_581 E0 h0 x1 y1.2.1 y4.1 _ hr9 _ _ _ hR9 hS (lv_sub hl [5, 6, 4, 3] rfl)
            · have hf := it_t hf c11
              refine lv_iload S.1 S.2.1 dL_act_518 (lv_at hl 0 rfl) ?_
              refine lv_if_ne (tgt := 527) S.1 S.2.1 dL_act_520 (by decide) (fun c20 => ?_) (fun c20 => ?_)
              · have hf := it_f hf c20
                refine lv_iconst (v := 0) S.1 S.2.1 dL_act_527 (by decide) ?_
                refine lv_icmp_ne (tgt := 550) S.1 S.2.1 dL_act_528 (by decide) (fun c21 => ?_) (fun c21 => ?_)
                · have hf := it_f hf c21
                  refine lv_iconst (v := 0) S.1 S.2.1 dL_act_550 (by decide) ?_
                  obtain rfl := Option.some.inj hf
                  refine W.mono9 (MQ.mono9 (fun oc t h => ⟨_, Or.inl rfl, h⟩)) ?_
                  refine W.widen (k := 1) (n := 6) (Nat.le_of_ble_eq_true rfl) (Nat.le_of_ble_eq_true rfl) ?_
                  exact mm_zret S hR hS hr hlocks (Or.inl rfl) dL_act_551
                · have hf := it_t hf c21
                  refine lv_iload S.1 S.2.1 dL_act_531 (lv_at hl 1 rfl) ?_
                  refine lv_if_ne (tgt := 546) S.1 S.2.1 dL_act_533 (by decide) (fun c22 => ?_) (fun c22 => ?_)
                  · have hf := it_f hf c22
                    refine lv_iconst (v := 1) S.1 S.2.1 dL_act_546 (by decide) ?_
                    refine lv_goto (tgt := 551) S.1 S.2.1 dL_act_547 (by decide) ?_
                    obtain rfl := Option.some.inj hf
                    refine W.mono9 (MQ.mono9 (fun oc t h => ⟨_, Or.inl rfl, h⟩)) ?_
                    refine W.widen (k := 1) (n := 6) (Nat.le_of_ble_eq_true rfl) (Nat.le_of_ble_eq_true rfl) ?_
                    exact mm_zret S hR hS hr hlocks (Or.inr rfl) dL_act_551
                  · have hf := it_t hf c22
                    refine mm_aload_n S dL_act_536 rfl (lv_at hl 4 rfl) ?_
                    refine lv_iload_n S.1 S.2.1 dL_act_537 rfl (lv_at hl 2 rfl) ?_
                    refine lv_iconst (v := 4) S.1 S.2.1 dL_act_538 (by decide) ?_
                    obtain ⟨y23, hy23, hf⟩ := bd hf
                    rcases it_or hf with ⟨c25, hf⟩ | ⟨c25, hf⟩
                    · refine mm_callVi S hR hS hA (As := [.int y4.1, .int 4]) (rest := []) cvL_68 (hK.k g3) (kX6_ofTask_c l G A (hK.k g3) hy23 c25) rfl rfl ⟨Nat.le_of_ble_eq_true rfl, Nat.le_of_ble_eq_true rfl⟩ rfl hl.1 rfl (lv_room (by simp [rf_cat, int_cat, long_cat])) dL_act_539 ⟨Nat.zero_le _, Nat.zero_le _⟩ (fun H locs hR hS => ?_)
                      have hK : mmKN μ y23.2.2 := hK.tr (kX6_ofTask_kn hy23)
                      refine lv_iconst (v := 1) S.1 S.2.1 dL_act_542 (by decide) ?_
                      refine lv_icmp_ne (tgt := 550) S.1 S.2.1 dL_act_543 (by decide) (fun c24 => ?_) (fun c24 => ?_)
                      · have hf := it_f hf c24
                        refine lv_iconst (v := 0) S.1 S.2.1 dL_act_550 (by decide) ?_
                        obtain rfl := Option.some.inj hf
                        refine W.mono9 (MQ.mono9 (fun oc t h => ⟨_, Or.inl rfl, h⟩)) ?_
                        refine W.widen (k := 1) (n := 6) (Nat.le_of_ble_eq_true rfl) (Nat.le_of_ble_eq_true rfl) ?_
                        exact mm_zret S hR hS hr hlocks (Or.inl rfl) dL_act_551
                      · have hf := it_t hf c24
                        refine lv_iconst (v := 1) S.1 S.2.1 dL_act_546 (by decide) ?_
                        refine lv_goto (tgt := 551) S.1 S.2.1 dL_act_547 (by decide) ?_
                        obtain rfl := Option.some.inj hf
                        refine W.mono9 (MQ.mono9 (fun oc t h => ⟨_, Or.inl rfl, h⟩)) ?_
                        refine W.widen (k := 1) (n := 6) (Nat.le_of_ble_eq_true rfl) (Nat.le_of_ble_eq_true rfl) ?_
                        exact mm_zret S hR hS hr hlocks (Or.inr rfl) dL_act_551
                    rcases it_or hf with ⟨c26, hf⟩ | ⟨c26, hf⟩
                    · skip
                      obtain rfl := Option.some.inj hf
                      have hnx : ¬ y23.1 = 0 := c25
                      have hM9 := kX6_ofTask_x l hl0 G A (hK.k g3) hy23 hnx
                      rw [show exn y23.1 = "java/lang/IndexOutOfBoundsException" from by rw [c26]; decide +kernel] at hM9
                      refine mm_catchV S hR hS hA hX (As := [.int y4.1, .int 4]) (rest := []) cvL_68 (hK.k g3) hM9 rfl rfl ⟨Nat.le_of_ble_eq_true rfl, Nat.le_of_ble_eq_true rfl⟩ rfl hl.1 rfl (lv_room (by simp [rf_cat, int_cat, long_cat])) dL_act_539 ⟨Nat.le_of_ble_eq_true rfl, Nat.le_of_ble_eq_true rfl⟩ (tableOf (hhAct.take 7)) ⟨474, 551, 552, 100⟩ (tableOf (hhAct.drop 8)) (by rw [htab]; rfl) (fun z hz => Or.inl ((by decide : ∀ z ∈ (tableOf (hhAct.take 7)), covers z 539 = false) z hz)) rfl (by decide) wlI wcI (fun q9 H9 locs hR9 hS hz9 => ?_)
                      have hK9 : mmKN μ y23.2.2 := hK.tr (kX6_ofTask_kn hy23)
                      obtain ⟨r9, hr9⟩ := hz _ rfl (H9.size + 1) (by have h1 := hR.1.2; rw [hK.2.2] at h1; omega)
                      refine W.mono9 (MQ.mono9 (fun oc t h => ⟨r9, Or.inr ⟨_, _, rfl, by have h1 := hR.1.2; rw [hK.2.2] at h1; omega, hr9⟩, h⟩)) ?_
                      refine lv_astore (i := 4) (lv' := [(4, .ref q9), (14, .int 0), (13, .int 0), (3, .int y4.1), (2, .int y1.2.1), (0, rf h0), (1, .int x1)]) S.1 S.2.1 dL_act_552 hl (by decide) (by simp [rf_cat, int_cat]) (fun ls hl => ?_)
                      exact wbL_act_554 E0 h0 x1 y1.2.1 _ hr9 _ _ _ hR9 hS (lv_sub hl [5, 6, 4] rfl)
                    obtain ⟨c27, hf⟩ := gd hf
                    obtain rfl := Option.some.inj hf
                    have hnx : ¬ y23.1 = 0 := c25
                    have hM9 := kX6_ofTask_x l hl0 G A (hK.k g3) hy23 hnx
                    rw [show exn y23.1 = "java/lang/IllegalStateException" from by rw [c27]; decide +kernel] at hM9
                    refine mm_catchV S hR hS hA hX (As := [.int y4.1, .int 4]) (rest := []) cvL_68 (hK.k g3) hM9 rfl rfl ⟨Nat.le_of_ble_eq_true rfl, Nat.le_of_ble_eq_true rfl⟩ rfl hl.1 rfl (lv_room (by simp [rf_cat, int_cat, long_cat])) dL_act_539 ⟨Nat.le_of_ble_eq_true rfl, Nat.le_of_ble_eq_true rfl⟩ (tableOf (hhAct.take 15)) ⟨474, 551, 579, 102⟩ (tableOf (hhAct.drop 16)) (by rw [htab]; rfl) (act_pass S hN (by decide)) rfl (by decide) wlS wcS (fun q9 H9 locs hR9 hS hz9 => ?_)
                    have hK9 : mmKN μ y23.2.2 := hK.tr (kX6_ofTask_kn hy23)
                    obtain ⟨r9, hr9⟩ := hz _ rfl (H9.size + 1) (by have h1 := hR.1.2; rw [hK.2.2] at h1; omega)
                    refine W.mono9 (MQ.mono9 (fun oc t h => ⟨r9, Or.inr ⟨_, _, rfl, by have h1 := hR.1.2; rw [hK.2.2] at h1; omega, hr9⟩, h⟩)) ?_
                    refine lv_astore (i := 4) (lv' := [(4, .ref q9), (14, .int 0), (13, .int 0), (3, .int y4.1), (2, .int y1.2.1), (0, rf h0), (1, .int x1)]) S.1 S.2.1 dL_act_579 hl (by decide) (by simp [rf_cat, int_cat]) (fun ls hl => ?_)
                    exact wbL_act_581 E0 h0 x1 y1.2.1 y4.1 _ hr9 _ _ _ hR9 hS (lv_sub hl [5, 6, 4, 3] rfl)
              · have hf := it_t hf c20
                refine lv_iconst (v := 1) S.1 S.2.1 dL_act_523 (by decide) ?_
                refine lv_goto (tgt := 528) S.1 S.2.1 dL_act_524 (by decide) ?_
                refine lv_icmp_ne (tgt := 550) S.1 S.2.1 dL_act_528 (by decide) (fun c29 => ?_) (fun c29 => ?_)
                · have hf := it_f hf c29
                  refine lv_iconst (v := 0) S.1 S.2.1 dL_act_550 (by decide) ?_
                  obtain rfl := Option.some.inj hf
                  refine W.mono9 (MQ.mono9 (fun oc t h => ⟨_, Or.inl rfl, h⟩)) ?_
                  refine W.widen (k := 1) (n := 6) (Nat.le_of_ble_eq_true rfl) (Nat.le_of_ble_eq_true rfl) ?_
                  exact mm_zret S hR hS hr hlocks (Or.inl rfl) dL_act_551
                · have hf := it_t hf c29
                  refine lv_iload S.1 S.2.1 dL_act_531 (lv_at hl 1 rfl) ?_
                  refine lv_if_ne (tgt := 546) S.1 S.2.1 dL_act_533 (by decide) (fun c30 => ?_) (fun c30 => ?_)
                  · have hf := it_f hf c30
                    refine lv_iconst (v := 1) S.1 S.2.1 dL_act_546 (by decide) ?_
                    refine lv_goto (tgt := 551) S.1 S.2.1 dL_act_547 (by decide) ?_
                    obtain rfl := Option.some.inj hf
                    refine W.mono9 (MQ.mono9 (fun oc t h => ⟨_, Or.inl rfl, h⟩)) ?_
                    refine W.widen (k := 1) (n := 6) (Nat.le_of_ble_eq_true rfl) (Nat.le_of_ble_eq_true rfl) ?_
                    exact mm_zret S hR hS hr hlocks (Or.inr rfl) dL_act_551
                  · have hf := it_t hf c30
                    refine mm_aload_n S dL_act_536 rfl (lv_at hl 4 rfl) ?_
                    refine lv_iload_n S.1 S.2.1 dL_act_537 rfl (lv_at hl 2 rfl) ?_
                    refine lv_iconst (v := 4) S.1 S.2.1 dL_act_538 (by decide) ?_
                    obtain ⟨y31, hy31, hf⟩ := bd hf
                    rcases it_or hf with ⟨c33, hf⟩ | ⟨c33, hf⟩
                    · refine mm_callVi S hR hS hA (As := [.int y4.1, .int 4]) (rest := []) cvL_68 (hK.k g3) (kX6_ofTask_c l G A (hK.k g3) hy31 c33) rfl rfl ⟨Nat.le_of_ble_eq_true rfl, Nat.le_of_ble_eq_true rfl⟩ rfl hl.1 rfl (lv_room (by simp [rf_cat, int_cat, long_cat])) dL_act_539 ⟨Nat.zero_le _, Nat.zero_le _⟩ (fun H locs hR hS => ?_)
                      have hK : mmKN μ y31.2.2 := hK.tr (kX6_ofTask_kn hy31)
                      refine lv_iconst (v := 1) S.1 S.2.1 dL_act_542 (by decide) ?_
                      refine lv_icmp_ne (tgt := 550) S.1 S.2.1 dL_act_543 (by decide) (fun c32 => ?_) (fun c32 => ?_)
                      · have hf := it_f hf c32
                        refine lv_iconst (v := 0) S.1 S.2.1 dL_act_550 (by decide) ?_
                        obtain rfl := Option.some.inj hf
                        refine W.mono9 (MQ.mono9 (fun oc t h => ⟨_, Or.inl rfl, h⟩)) ?_
                        refine W.widen (k := 1) (n := 6) (Nat.le_of_ble_eq_true rfl) (Nat.le_of_ble_eq_true rfl) ?_
                        exact mm_zret S hR hS hr hlocks (Or.inl rfl) dL_act_551
                      · have hf := it_t hf c32
                        refine lv_iconst (v := 1) S.1 S.2.1 dL_act_546 (by decide) ?_
                        refine lv_goto (tgt := 551) S.1 S.2.1 dL_act_547 (by decide) ?_
                        obtain rfl := Option.some.inj hf
                        refine W.mono9 (MQ.mono9 (fun oc t h => ⟨_, Or.inl rfl, h⟩)) ?_
                        refine W.widen (k := 1) (n := 6) (Nat.le_of_ble_eq_true rfl) (Nat.le_of_ble_eq_true rfl) ?_
                        exact mm_zret S hR hS hr hlocks (Or.inr rfl) dL_act_551
                    rcases it_or hf with ⟨c34, hf⟩ | ⟨c34, hf⟩
                    · skip
                      obtain rfl := Option.some.inj hf
                      have hnx : ¬ y31.1 = 0 := c33
                      have hM9 := kX6_ofTask_x l hl0 G A (hK.k g3) hy31 hnx
                      rw [show exn y31.1 = "java/lang/IndexOutOfBoundsException" from by rw [c34]; decide +kernel] at hM9
                      refine mm_catchV S hR hS hA hX (As := [.int y4.1, .int 4]) (rest := []) cvL_68 (hK.k g3) hM9 rfl rfl ⟨Nat.le_of_ble_eq_true rfl, Nat.le_of_ble_eq_true rfl⟩ rfl hl.1 rfl (lv_room (by simp [rf_cat, int_cat, long_cat])) dL_act_539 ⟨Nat.le_of_ble_eq_true rfl, Nat.le_of_ble_eq_true rfl⟩ (tableOf (hhAct.take 7)) ⟨474, 551, 552, 100⟩ (tableOf (hhAct.drop 8)) (by rw [htab]; rfl) (fun z hz => Or.inl ((by decide : ∀ z ∈ (tableOf (hhAct.take 7)), covers z 539 = false) z hz)) rfl (by decide) wlI wcI (fun q9 H9 locs hR9 hS hz9 => ?_)
                      have hK9 : mmKN μ y31.2.2 := hK.tr (kX6_ofTask_kn hy31)
                      obtain ⟨r9, hr9⟩ := hz _ rfl (H9.size + 1) (by have h1 := hR.1.2; rw [hK.2.2] at h1; omega)
                      refine W.mono9 (MQ.mono9 (fun oc t h => ⟨r9, Or.inr ⟨_, _, rfl, by have h1 := hR.1.2; rw [hK.2.2] at h1; omega, hr9⟩, h⟩)) ?_
                      refine lv_astore (i := 4) (lv' := [(4, .ref q9), (14, .int 0), (13, .int 0), (3, .int y4.1), (2, .int y1.2.1), (0, rf h0), (1, .int x1)]) S.1 S.2.1 dL_act_552 hl (by decide) (by simp [rf_cat, int_cat]) (fun ls hl => ?_)
                      exact wbL_act_554 E0 h0 x1 y1.2.1 _ hr9 _ _ _ hR9 hS (lv_sub hl [5, 6, 4] rfl)
                    obtain ⟨c35, hf⟩ := gd hf
                    obtain rfl := Option.some.inj hf
                    have hnx : ¬ y31.1 = 0 := c33
                    have hM9 := kX6_ofTask_x l hl0 G A (hK.k g3) hy31 hnx
                    rw [show exn y31.1 = "java/lang/IllegalStateException" from by rw [c35]; decide +kernel] at hM9
                    refine mm_catchV S hR hS hA hX (As := [.int y4.1, .int 4]) (rest := []) cvL_68 (hK.k g3) hM9 rfl rfl ⟨Nat.le_of_ble_eq_true rfl, Nat.le_of_ble_eq_true rfl⟩ rfl hl.1 rfl (lv_room (by simp [rf_cat, int_cat, long_cat])) dL_act_539 ⟨Nat.le_of_ble_eq_true rfl, Nat.le_of_ble_eq_true rfl⟩ (tableOf (hhAct.take 15)) ⟨474, 551, 579, 102⟩ (tableOf (hhAct.drop 16)) (by rw [htab]; rfl) (act_pass S hN (by decide)) rfl (by decide) wlS wcS (fun q9 H9 locs hR9 hS hz9 => ?_)
                    have hK9 : mmKN μ y31.2.2 := hK.tr (kX6_ofTask_kn hy31)
                    obtain ⟨r9, hr9⟩ := hz _ rfl (H9.size + 1) (by have h1 := hR.1.2; rw [hK.2.2] at h1; omega)
                    refine W.mono9 (MQ.mono9 (fun oc t h => ⟨r9, Or.inr ⟨_, _, rfl, by have h1 := hR.1.2; rw [hK.2.2] at h1; omega, hr9⟩, h⟩)) ?_
                    refine lv_astore (i := 4) (lv' := [(4, .ref q9), (14, .int 0), (13, .int 0), (3, .int y4.1), (2, .int y1.2.1), (0, rf h0), (1, .int x1)]) S.1 S.2.1 dL_act_579 hl (by decide) (by simp [rf_cat, int_cat]) (fun ls hl => ?_)
                    exact wbL_act_581 E0 h0 x1 y1.2.1 y4.1 _ hr9 _ _ _ hR9 hS (lv_sub hl [5, 6, 4, 3] rfl)
          rcases it_or hf with ⟨c38, hf⟩ | ⟨c38, hf⟩
          · skip
            obtain rfl := Option.some.inj hf
            have hnx : ¬ y10.1 = 0 := c37
            have hM9 := kX6_cancel_x l hl0 G A (hK.k g3) hy10 hnx
            rw [show exn y10.1 = "java/lang/IndexOutOfBoundsException" from by rw [c38]; decide +kernel] at hM9
            refine mm_catchV S hR hS hA hX (As := [.int y4.1]) (rest := []) cvL_96 (hK.k g3) hM9 rfl rfl ⟨Nat.le_of_ble_eq_true rfl, Nat.le_of_ble_eq_true rfl⟩ rfl hl.1 rfl (lv_room (by simp [rf_cat, int_cat, long_cat])) dL_act_510 ⟨Nat.le_of_ble_eq_true rfl, Nat.le_of_ble_eq_true rfl⟩ (tableOf (hhAct.take 7)) ⟨474, 551, 552, 100⟩ (tableOf (hhAct.drop 8)) (by rw [htab]; rfl) (fun z hz => Or.inl ((by decide : ∀ z ∈ (tableOf (hhAct.take 7)), covers z 510 = false) z hz)) rfl (by decide) wlI wcI (fun q9 H9 locs hR9 hS hz9 => ?_)
            have hK9 : mmKN μ y10.2.2 := hK.tr (kX6_cancel_kn hy10)
            obtain ⟨r9, hr9⟩ := hz _ rfl (H9.size + 1) (by have h1 := hR.1.2; rw [hK.2.2] at h1; omega)
            refine W.mono9 (MQ.mono9 (fun oc t h => ⟨r9, Or.inr ⟨_, _, rfl, by have h1 := hR.1.2; rw [hK.2.2] at h1; omega, hr9⟩, h⟩)) ?_
            refine lv_astore (i := 4) (lv' := [(4, .ref q9), (14, .int 0), (13, .int 0), (3, .int y4.1), (2, .int y1.2.1), (0, rf h0), (1, .int x1)]) S.1 S.2.1 dL_act_552 hl (by decide) (by simp [rf_cat, int_cat]) (fun ls hl => ?_)
            exact wbL_act_554 E0 h0 x1 y1.2.1 _ hr9 _ _ _ hR9 hS (lv_sub hl [5, 6, 4] rfl)
          obtain ⟨c39, hf⟩ := gd hf
          obtain rfl := Option.some.inj hf
          have hnx : ¬ y10.1 = 0 := c37
          have hM9 := kX6_cancel_x l hl0 G A (hK.k g3) hy10 hnx
          rw [show exn y10.1 = "java/lang/IllegalStateException" from by rw [c39]; decide +kernel] at hM9
          refine mm_catchV S hR hS hA hX (As := [.int y4.1]) (rest := []) cvL_96 (hK.k g3) hM9 rfl rfl ⟨Nat.le_of_ble_eq_true rfl, Nat.le_of_ble_eq_true rfl⟩ rfl hl.1 rfl (lv_room (by simp [rf_cat, int_cat, long_cat])) dL_act_510 ⟨Nat.le_of_ble_eq_true rfl, Nat.le_of_ble_eq_true rfl⟩ (tableOf (hhAct.take 15)) ⟨474, 551, 579, 102⟩ (tableOf (hhAct.drop 16)) (by rw [htab]; rfl) (act_pass S hN (by decide)) rfl (by decide) wlS wcS (fun q9 H9 locs hR9 hS hz9 => ?_)
          have hK9 : mmKN μ y10.2.2 := hK.tr (kX6_cancel_kn hy10)
          obtain ⟨r9, hr9⟩ := hz _ rfl (H9.size + 1) (by have h1 := hR.1.2; rw [hK.2.2] at h1; omega)
          refine W.mono9 (MQ.mono9 (fun oc t h => ⟨r9, Or.inr ⟨_, _, rfl, by have h1 := hR.1.2; rw [hK.2.2] at h1; omega, hr9⟩, h⟩)) ?_
          refine lv_astore (i := 4) (lv' := [(4, .ref q9), (14, .int 0), (13, .int 0), (3, .int y4.1), (2, .int y1.2.1), (0, rf h0), (1, .int x1)]) S.1 S.2.1 dL_act_579 hl (by decide) (by simp [rf_cat, int_cat]) (fun ls hl => ?_)
          exact wbL_act_581 E0 h0 x1 y1.2.1 y4.1 _ hr9 _ _ _ hR9 hS (lv_sub hl [5, 6, 4, 3] rfl)
        · have hf := it_t hf c9
          refine lv_iconst (v := 1) S.1 S.2.1 dL_act_501 (by decide) ?_
          refine lv_goto (tgt := 506) S.1 S.2.1 dL_act_502 (by decide) ?_
          refine lv_istore (i := 14) (lv' := [(14, .int 1), (13, .int 0), (3, .int y4.1), (2, .int y1.2.1), (0, rf h0), (1, .int x1)]) S.1 S.2.1 dL_act_506 hl (by decide) rfl (fun ls hl => ?_)
          refine mm_aload_n S dL_act_508 rfl (lv_at hl 4 rfl) ?_
          refine lv_iload_n S.1 S.2.1 dL_act_509 rfl (lv_at hl 2 rfl) ?_
          obtain ⟨y41, hy41, hf⟩ := bd hf
          rcases it_or hf with ⟨c68, hf⟩ | ⟨c68, hf⟩
          · refine mm_callVi S hR hS hA (As := [.int y4.1]) (rest := []) cvL_96 (hK.k g3) (kX6_cancel_c l G A (hK.k g3) hy41 c68) rfl rfl ⟨Nat.le_of_ble_eq_true rfl, Nat.le_of_ble_eq_true rfl⟩ rfl hl.1 rfl (lv_room (by simp [rf_cat, int_cat, long_cat])) dL_act_510 ⟨Nat.zero_le _, Nat.zero_le _⟩ (fun H locs hR hS => ?_)
            have hK : mmKN μ y41.2.2 := hK.tr (kX6_cancel_kn hy41)
            refine lv_iload S.1 S.2.1 dL_act_513 (lv_at hl 1 rfl) ?_
            refine lv_if_ne (tgt := 527) S.1 S.2.1 dL_act_515 (by decide) (fun c42 => ?_) (fun c42 => ?_)
            · have hf := it_f hf c42
              refine lv_iconst (v := 0) S.1 S.2.1 dL_act_527 (by decide) ?_
              refine lv_icmp_ne (tgt := 550) S.1 S.2.1 dL_act_528 (by decide) (fun c43 => ?_) (fun c43 => ?_)
              · have hf := it_f hf c43
                refine lv_iconst (v := 0) S.1 S.2.1 dL_act_550 (by decide) ?_
                obtain rfl := Option.some.inj hf
                refine W.mono9 (MQ.mono9 (fun oc t h => ⟨_, Or.inl rfl, h⟩)) ?_
                refine W.widen (k := 1) (n := 6) (Nat.le_of_ble_eq_true rfl) (Nat.le_of_ble_eq_true rfl) ?_
                exact mm_zret S hR hS hr hlocks (Or.inl rfl) dL_act_551
              · have hf := it_t hf c43
                refine lv_iload S.1 S.2.1 dL_act_531 (lv_at hl 1 rfl) ?_
                refine lv_if_ne (tgt := 546) S.1 S.2.1 dL_act_533 (by decide) (fun c44 => ?_) (fun c44 => ?_)
                · have hf := it_f hf c44
                  refine lv_iconst (v := 1) S.1 S.2.1 dL_act_546 (by decide) ?_
                  refine lv_goto (tgt := 551) S.1 S.2.1 dL_act_547 (by decide) ?_
                  obtain rfl := Option.some.inj hf
                  refine W.mono9 (MQ.mono9 (fun oc t h => ⟨_, Or.inl rfl, h⟩)) ?_
                  refine W.widen (k := 1) (n := 6) (Nat.le_of_ble_eq_true rfl) (Nat.le_of_ble_eq_true rfl) ?_
                  exact mm_zret S hR hS hr hlocks (Or.inr rfl) dL_act_551
                · have hf := it_t hf c44
                  refine mm_aload_n S dL_act_536 rfl (lv_at hl 4 rfl) ?_
                  refine lv_iload_n S.1 S.2.1 dL_act_537 rfl (lv_at hl 2 rfl) ?_
                  refine lv_iconst (v := 4) S.1 S.2.1 dL_act_538 (by decide) ?_
                  obtain ⟨y45, hy45, hf⟩ := bd hf
                  rcases it_or hf with ⟨c47, hf⟩ | ⟨c47, hf⟩
                  · refine mm_callVi S hR hS hA (As := [.int y4.1, .int 4]) (rest := []) cvL_68 (hK.k g3) (kX6_ofTask_c l G A (hK.k g3) hy45 c47) rfl rfl ⟨Nat.le_of_ble_eq_true rfl, Nat.le_of_ble_eq_true rfl⟩ rfl hl.1 rfl (lv_room (by simp [rf_cat, int_cat, long_cat])) dL_act_539 ⟨Nat.zero_le _, Nat.zero_le _⟩ (fun H locs hR hS => ?_)
                    have hK : mmKN μ y45.2.2 := hK.tr (kX6_ofTask_kn hy45)
                    refine lv_iconst (v := 1) S.1 S.2.1 dL_act_542 (by decide) ?_
                    refine lv_icmp_ne (tgt := 550) S.1 S.2.1 dL_act_543 (by decide) (fun c46 => ?_) (fun c46 => ?_)
                    · have hf := it_f hf c46
                      refine lv_iconst (v := 0) S.1 S.2.1 dL_act_550 (by decide) ?_
                      obtain rfl := Option.some.inj hf
                      refine W.mono9 (MQ.mono9 (fun oc t h => ⟨_, Or.inl rfl, h⟩)) ?_
                      refine W.widen (k := 1) (n := 6) (Nat.le_of_ble_eq_true rfl) (Nat.le_of_ble_eq_true rfl) ?_
                      exact mm_zret S hR hS hr hlocks (Or.inl rfl) dL_act_551
                    · have hf := it_t hf c46
                      refine lv_iconst (v := 1) S.1 S.2.1 dL_act_546 (by decide) ?_
                      refine lv_goto (tgt := 551) S.1 S.2.1 dL_act_547 (by decide) ?_
                      obtain rfl := Option.some.inj hf
                      refine W.mono9 (MQ.mono9 (fun oc t h => ⟨_, Or.inl rfl, h⟩)) ?_
                      refine W.widen (k := 1) (n := 6) (Nat.le_of_ble_eq_true rfl) (Nat.le_of_ble_eq_true rfl) ?_
                      exact mm_zret S hR hS hr hlocks (Or.inr rfl) dL_act_551
                  rcases it_or hf with ⟨c48, hf⟩ | ⟨c48, hf⟩
                  · skip
                    obtain rfl := Option.some.inj hf
                    have hnx : ¬ y45.1 = 0 := c47
                    have hM9 := kX6_ofTask_x l hl0 G A (hK.k g3) hy45 hnx
                    rw [show exn y45.1 = "java/lang/IndexOutOfBoundsException" from by rw [c48]; decide +kernel] at hM9
                    refine mm_catchV S hR hS hA hX (As := [.int y4.1, .int 4]) (rest := []) cvL_68 (hK.k g3) hM9 rfl rfl ⟨Nat.le_of_ble_eq_true rfl, Nat.le_of_ble_eq_true rfl⟩ rfl hl.1 rfl (lv_room (by simp [rf_cat, int_cat, long_cat])) dL_act_539 ⟨Nat.le_of_ble_eq_true rfl, Nat.le_of_ble_eq_true rfl⟩ (tableOf (hhAct.take 7)) ⟨474, 551, 552, 100⟩ (tableOf (hhAct.drop 8)) (by rw [htab]; rfl) (fun z hz => Or.inl ((by decide : ∀ z ∈ (tableOf (hhAct.take 7)), covers z 539 = false) z hz)) rfl (by decide) wlI wcI (fun q9 H9 locs hR9 hS hz9 => ?_)
                    have hK9 : mmKN μ y45.2.2 := hK.tr (kX6_ofTask_kn hy45)
                    obtain ⟨r9, hr9⟩ := hz _ rfl (H9.size + 1) (by have h1 := hR.1.2; rw [hK.2.2] at h1; omega)
                    refine W.mono9 (MQ.mono9 (fun oc t h => ⟨r9, Or.inr ⟨_, _, rfl, by have h1 := hR.1.2; rw [hK.2.2] at h1; omega, hr9⟩, h⟩)) ?_
                    refine lv_astore (i := 4) (lv' := [(4, .ref q9), (14, .int 1), (13, .int 0), (3, .int y4.1), (2, .int y1.2.1), (0, rf h0), (1, .int x1)]) S.1 S.2.1 dL_act_552 hl (by decide) (by simp [rf_cat, int_cat]) (fun ls hl => ?_)
                    exact wbL_act_554 E0 h0 x1 y1.2.1 _ hr9 _ _ _ hR9 hS (lv_sub hl [5, 6, 4] rfl)
                  obtain ⟨c49, hf⟩ := gd hf
                  obtain rfl := Option.some.inj hf
                  have hnx : ¬ y45.1 = 0 := c47
                  have hM9 := kX6_ofTask_x l hl0 G A (hK.k g3) hy45 hnx
                  rw [show exn y45.1 = "java/lang/IllegalStateException" from by rw [c49]; decide +kernel] at hM9
                  refine mm_catchV S hR hS hA hX (As := [.int y4.1, .int 4]) (rest := []) cvL_68 (hK.k g3) hM9 rfl rfl ⟨Nat.le_of_ble_eq_true rfl, Nat.le_of_ble_eq_true rfl⟩ rfl hl.1 rfl (lv_room (by simp [rf_cat, int_cat, long_cat])) dL_act_539 ⟨Nat.le_of_ble_eq_true rfl, Nat.le_of_ble_eq_true rfl⟩ (tableOf (hhAct.take 15)) ⟨474, 551, 579, 102⟩ (tableOf (hhAct.drop 16)) (by rw [htab]; rfl) (act_pass S hN (by decide)) rfl (by decide) wlS wcS (fun q9 H9 locs hR9 hS hz9 => ?_)
                  have hK9 : mmKN μ y45.2.2 := hK.tr (kX6_ofTask_kn hy45)
                  obtain ⟨r9, hr9⟩ := hz _ rfl (H9.size + 1) (by have h1 := hR.1.2; rw [hK.2.2] at h1; omega)
                  refine W.mono9 (MQ.mono9 (fun oc t h => ⟨r9, Or.inr ⟨_, _, rfl, by have h1 := hR.1.2; rw [hK.2.2] at h1; omega, hr9⟩, h⟩)) ?_
                  refine lv_astore (i := 4) (lv' := [(4, .ref q9), (14, .int 1), (13, .int 0), (3, .int y4.1), (2, .int y1.2.1), (0, rf h0), (1, .int x1)]) S.1 S.2.1 dL_act_579 hl (by decide) (by simp [rf_cat, int_cat]) (fun ls hl => ?_)
                  exact wbL_act_581 E0 h0 x1 y1.2.1 y4.1 _ hr9 _ _ _ hR9 hS (lv_sub hl [5, 6, 4, 3] rfl)
            · have hf := it_t hf c42
              refine lv_iload S.1 S.2.1 dL_act_518 (lv_at hl 0 rfl) ?_
              refine lv_if_ne (tgt := 527) S.1 S.2.1 dL_act_520 (by decide) (fun c51 => ?_) (fun c51 => ?_)
              · have hf := it_f hf c51
                refine lv_iconst (v := 0) S.1 S.2.1 dL_act_527 (by decide) ?_
                refine lv_icmp_ne (tgt := 550) S.1 S.2.1 dL_act_528 (by decide) (fun c52 => ?_) (fun c52 => ?_)
                · have hf := it_f hf c52
                  refine lv_iconst (v := 0) S.1 S.2.1 dL_act_550 (by decide) ?_
                  obtain rfl := Option.some.inj hf
                  refine W.mono9 (MQ.mono9 (fun oc t h => ⟨_, Or.inl rfl, h⟩)) ?_
                  refine W.widen (k := 1) (n := 6) (Nat.le_of_ble_eq_true rfl) (Nat.le_of_ble_eq_true rfl) ?_
                  exact mm_zret S hR hS hr hlocks (Or.inl rfl) dL_act_551
                · have hf := it_t hf c52
                  refine lv_iload S.1 S.2.1 dL_act_531 (lv_at hl 1 rfl) ?_
                  refine lv_if_ne (tgt := 546) S.1 S.2.1 dL_act_533 (by decide) (fun c53 => ?_) (fun c53 => ?_)
                  · have hf := it_f hf c53
                    refine lv_iconst (v := 1) S.1 S.2.1 dL_act_546 (by decide) ?_
                    refine lv_goto (tgt := 551) S.1 S.2.1 dL_act_547 (by decide) ?_
                    obtain rfl := Option.some.inj hf
                    refine W.mono9 (MQ.mono9 (fun oc t h => ⟨_, Or.inl rfl, h⟩)) ?_
                    refine W.widen (k := 1) (n := 6) (Nat.le_of_ble_eq_true rfl) (Nat.le_of_ble_eq_true rfl) ?_
                    exact mm_zret S hR hS hr hlocks (Or.inr rfl) dL_act_551
                  · have hf := it_t hf c53
                    refine mm_aload_n S dL_act_536 rfl (lv_at hl 4 rfl) ?_
                    refine lv_iload_n S.1 S.2.1 dL_act_537 rfl (lv_at hl 2 rfl) ?_
                    refine lv_iconst (v := 4) S.1 S.2.1 dL_act_538 (by decide) ?_
                    obtain ⟨y54, hy54, hf⟩ := bd hf
                    rcases it_or hf with ⟨c56, hf⟩ | ⟨c56, hf⟩
                    · refine mm_callVi S hR hS hA (As := [.int y4.1, .int 4]) (rest := []) cvL_68 (hK.k g3) (kX6_ofTask_c l G A (hK.k g3) hy54 c56) rfl rfl ⟨Nat.le_of_ble_eq_true rfl, Nat.le_of_ble_eq_true rfl⟩ rfl hl.1 rfl (lv_room (by simp [rf_cat, int_cat, long_cat])) dL_act_539 ⟨Nat.zero_le _, Nat.zero_le _⟩ (fun H locs hR hS => ?_)
                      have hK : mmKN μ y54.2.2 := hK.tr (kX6_ofTask_kn hy54)
                      refine lv_iconst (v := 1) S.1 S.2.1 dL_act_542 (by decide) ?_
                      refine lv_icmp_ne (tgt := 550) S.1 S.2.1 dL_act_543 (by decide) (fun c55 => ?_) (fun c55 => ?_)
                      · have hf := it_f hf c55
                        refine lv_iconst (v := 0) S.1 S.2.1 dL_act_550 (by decide) ?_
                        obtain rfl := Option.some.inj hf
                        refine W.mono9 (MQ.mono9 (fun oc t h => ⟨_, Or.inl rfl, h⟩)) ?_
                        refine W.widen (k := 1) (n := 6) (Nat.le_of_ble_eq_true rfl) (Nat.le_of_ble_eq_true rfl) ?_
                        exact mm_zret S hR hS hr hlocks (Or.inl rfl) dL_act_551
                      · have hf := it_t hf c55
                        refine lv_iconst (v := 1) S.1 S.2.1 dL_act_546 (by decide) ?_
                        refine lv_goto (tgt := 551) S.1 S.2.1 dL_act_547 (by decide) ?_
                        obtain rfl := Option.some.inj hf
                        refine W.mono9 (MQ.mono9 (fun oc t h => ⟨_, Or.inl rfl, h⟩)) ?_
                        refine W.widen (k := 1) (n := 6) (Nat.le_of_ble_eq_true rfl) (Nat.le_of_ble_eq_true rfl) ?_
                        exact mm_zret S hR hS hr hlocks (Or.inr rfl) dL_act_551
                    rcases it_or hf with ⟨c57, hf⟩ | ⟨c57, hf⟩
                    · skip
                      obtain rfl := Option.some.inj hf
                      have hnx : ¬ y54.1 = 0 := c56
                      have hM9 := kX6_ofTask_x l hl0 G A (hK.k g3) hy54 hnx
                      rw [show exn y54.1 = "java/lang/IndexOutOfBoundsException" from by rw [c57]; decide +kernel] at hM9
                      refine mm_catchV S hR hS hA hX (As := [.int y4.1, .int 4]) (rest := []) cvL_68 (hK.k g3) hM9 rfl rfl ⟨Nat.le_of_ble_eq_true rfl, Nat.le_of_ble_eq_true rfl⟩ rfl hl.1 rfl (lv_room (by simp [rf_cat, int_cat, long_cat])) dL_act_539 ⟨Nat.le_of_ble_eq_true rfl, Nat.le_of_ble_eq_true rfl⟩ (tableOf (hhAct.take 7)) ⟨474, 551, 552, 100⟩ (tableOf (hhAct.drop 8)) (by rw [htab]; rfl) (fun z hz => Or.inl ((by decide : ∀ z ∈ (tableOf (hhAct.take 7)), covers z 539 = false) z hz)) rfl (by decide) wlI wcI (fun q9 H9 locs hR9 hS hz9 => ?_)
                      have hK9 : mmKN μ y54.2.2 := hK.tr (kX6_ofTask_kn hy54)
                      obtain ⟨r9, hr9⟩ := hz _ rfl (H9.size + 1) (by have h1 := hR.1.2; rw [hK.2.2] at h1; omega)
                      refine W.mono9 (MQ.mono9 (fun oc t h => ⟨r9, Or.inr ⟨_, _, rfl, by have h1 := hR.1.2; rw [hK.2.2] at h1; omega, hr9⟩, h⟩)) ?_
                      refine lv_astore (i := 4) (lv' := [(4, .ref q9), (14, .int 1), (13, .int 0), (3, .int y4.1), (2, .int y1.2.1), (0, rf h0), (1, .int x1)]) S.1 S.2.1 dL_act_552 hl (by decide) (by simp [rf_cat, int_cat]) (fun ls hl => ?_)
                      exact wbL_act_554 E0 h0 x1 y1.2.1 _ hr9 _ _ _ hR9 hS (lv_sub hl [5, 6, 4] rfl)
                    obtain ⟨c58, hf⟩ := gd hf
                    obtain rfl := Option.some.inj hf
                    have hnx : ¬ y54.1 = 0 := c56
                    have hM9 := kX6_ofTask_x l hl0 G A (hK.k g3) hy54 hnx
                    rw [show exn y54.1 = "java/lang/IllegalStateException" from by rw [c58]; decide +kernel] at hM9
                    refine mm_catchV S hR hS hA hX (As := [.int y4.1, .int 4]) (rest := []) cvL_68 (hK.k g3) hM9 rfl rfl ⟨Nat.le_of_ble_eq_true rfl, Nat.le_of_ble_eq_true rfl⟩ rfl hl.1 rfl (lv_room (by simp [rf_cat, int_cat, long_cat])) dL_act_539 ⟨Nat.le_of_ble_eq_true rfl, Nat.le_of_ble_eq_true rfl⟩ (tableOf (hhAct.take 15)) ⟨474, 551, 579, 102⟩ (tableOf (hhAct.drop 16)) (by rw [htab]; rfl) (act_pass S hN (by decide)) rfl (by decide) wlS wcS (fun q9 H9 locs hR9 hS hz9 => ?_)
                    have hK9 : mmKN μ y54.2.2 := hK.tr (kX6_ofTask_kn hy54)
                    obtain ⟨r9, hr9⟩ := hz _ rfl (H9.size + 1) (by have h1 := hR.1.2; rw [hK.2.2] at h1; omega)
                    refine W.mono9 (MQ.mono9 (fun oc t h => ⟨r9, Or.inr ⟨_, _, rfl, by have h1 := hR.1.2; rw [hK.2.2] at h1; omega, hr9⟩, h⟩)) ?_
                    refine lv_astore (i := 4) (lv' := [(4, .ref q9), (14, .int 1), (13, .int 0), (3, .int y4.1), (2, .int y1.2.1), (0, rf h0), (1, .int x1)]) S.1 S.2.1 dL_act_579 hl (by decide) (by simp [rf_cat, int_cat]) (fun ls hl => ?_)
                    exact wbL_act_581 E0 h0 x1 y1.2.1 y4.1 _ hr9 _ _ _ hR9 hS (lv_sub hl [5, 6, 4, 3] rfl)
              · have hf := it_t hf c51
                refine lv_iconst (v := 1) S.1 S.2.1 dL_act_523 (by decide) ?_
                refine lv_goto (tgt := 528) S.1 S.2.1 dL_act_524 (by decide) ?_
                refine lv_icmp_ne (tgt := 550) S.1 S.2.1 dL_act_528 (by decide) (fun c60 => ?_) (fun c60 => ?_)
                · have hf := it_f hf c60
                  refine lv_iconst (v := 0) S.1 S.2.1 dL_act_550 (by decide) ?_
                  obtain rfl := Option.some.inj hf
                  refine W.mono9 (MQ.mono9 (fun oc t h => ⟨_, Or.inl rfl, h⟩)) ?_
                  refine W.widen (k := 1) (n := 6) (Nat.le_of_ble_eq_true rfl) (Nat.le_of_ble_eq_true rfl) ?_
                  exact mm_zret S hR hS hr hlocks (Or.inl rfl) dL_act_551
                · have hf := it_t hf c60
                  refine lv_iload S.1 S.2.1 dL_act_531 (lv_at hl 1 rfl) ?_
                  refine lv_if_ne (tgt := 546) S.1 S.2.1 dL_act_533 (by decide) (fun c61 => ?_) (fun c61 => ?_)
                  · have hf := it_f hf c61
                    refine lv_iconst (v := 1) S.1 S.2.1 dL_act_546 (by decide) ?_
                    refine lv_goto (tgt := 551) S.1 S.2.1 dL_act_547 (by decide) ?_
                    obtain rfl := Option.some.inj hf
                    refine W.mono9 (MQ.mono9 (fun oc t h => ⟨_, Or.inl rfl, h⟩)) ?_
                    refine W.widen (k := 1) (n := 6) (Nat.le_of_ble_eq_true rfl) (Nat.le_of_ble_eq_true rfl) ?_
                    exact mm_zret S hR hS hr hlocks (Or.inr rfl) dL_act_551
                  · have hf := it_t hf c61
                    refine mm_aload_n S dL_act_536 rfl (lv_at hl 4 rfl) ?_
                    refine lv_iload_n S.1 S.2.1 dL_act_537 rfl (lv_at hl 2 rfl) ?_
                    refine lv_iconst (v := 4) S.1 S.2.1 dL_act_538 (by decide) ?_
                    obtain ⟨y62, hy62, hf⟩ := bd hf
                    rcases it_or hf with ⟨c64, hf⟩ | ⟨c64, hf⟩
                    · refine mm_callVi S hR hS hA (As := [.int y4.1, .int 4]) (rest := []) cvL_68 (hK.k g3) (kX6_ofTask_c l G A (hK.k g3) hy62 c64) rfl rfl ⟨Nat.le_of_ble_eq_true rfl, Nat.le_of_ble_eq_true rfl⟩ rfl hl.1 rfl (lv_room (by simp [rf_cat, int_cat, long_cat])) dL_act_539 ⟨Nat.zero_le _, Nat.zero_le _⟩ (fun H locs hR hS => ?_)
                      have hK : mmKN μ y62.2.2 := hK.tr (kX6_ofTask_kn hy62)
                      refine lv_iconst (v := 1) S.1 S.2.1 dL_act_542 (by decide) ?_
                      refine lv_icmp_ne (tgt := 550) S.1 S.2.1 dL_act_543 (by decide) (fun c63 => ?_) (fun c63 => ?_)
                      · have hf := it_f hf c63
                        refine lv_iconst (v := 0) S.1 S.2.1 dL_act_550 (by decide) ?_
                        obtain rfl := Option.some.inj hf
                        refine W.mono9 (MQ.mono9 (fun oc t h => ⟨_, Or.inl rfl, h⟩)) ?_
                        refine W.widen (k := 1) (n := 6) (Nat.le_of_ble_eq_true rfl) (Nat.le_of_ble_eq_true rfl) ?_
                        exact mm_zret S hR hS hr hlocks (Or.inl rfl) dL_act_551
                      · have hf := it_t hf c63
                        refine lv_iconst (v := 1) S.1 S.2.1 dL_act_546 (by decide) ?_
                        refine lv_goto (tgt := 551) S.1 S.2.1 dL_act_547 (by decide) ?_
                        obtain rfl := Option.some.inj hf
                        refine W.mono9 (MQ.mono9 (fun oc t h => ⟨_, Or.inl rfl, h⟩)) ?_
                        refine W.widen (k := 1) (n := 6) (Nat.le_of_ble_eq_true rfl) (Nat.le_of_ble_eq_true rfl) ?_
                        exact mm_zret S hR hS hr hlocks (Or.inr rfl) dL_act_551
                    rcases it_or hf with ⟨c65, hf⟩ | ⟨c65, hf⟩
                    · skip
                      obtain rfl := Option.some.inj hf
                      have hnx : ¬ y62.1 = 0 := c64
                      have hM9 := kX6_ofTask_x l hl0 G A (hK.k g3) hy62 hnx
                      rw [show exn y62.1 = "java/lang/IndexOutOfBoundsException" from by rw [c65]; decide +kernel] at hM9
                      refine mm_catchV S hR hS hA hX (As := [.int y4.1, .int 4]) (rest := []) cvL_68 (hK.k g3) hM9 rfl rfl ⟨Nat.le_of_ble_eq_true rfl, Nat.le_of_ble_eq_true rfl⟩ rfl hl.1 rfl (lv_room (by simp [rf_cat, int_cat, long_cat])) dL_act_539 ⟨Nat.le_of_ble_eq_true rfl, Nat.le_of_ble_eq_true rfl⟩ (tableOf (hhAct.take 7)) ⟨474, 551, 552, 100⟩ (tableOf (hhAct.drop 8)) (by rw [htab]; rfl) (fun z hz => Or.inl ((by decide : ∀ z ∈ (tableOf (hhAct.take 7)), covers z 539 = false) z hz)) rfl (by decide) wlI wcI (fun q9 H9 locs hR9 hS hz9 => ?_)
                      have hK9 : mmKN μ y62.2.2 := hK.tr (kX6_ofTask_kn hy62)
                      obtain ⟨r9, hr9⟩ := hz _ rfl (H9.size + 1) (by have h1 := hR.1.2; rw [hK.2.2] at h1; omega)
                      refine W.mono9 (MQ.mono9 (fun oc t h => ⟨r9, Or.inr ⟨_, _, rfl, by have h1 := hR.1.2; rw [hK.2.2] at h1; omega, hr9⟩, h⟩)) ?_
                      refine lv_astore (i := 4) (lv' := [(4, .ref q9), (14, .int 1), (13, .int 0), (3, .int y4.1), (2, .int y1.2.1), (0, rf h0), (1, .int x1)]) S.1 S.2.1 dL_act_552 hl (by decide) (by simp [rf_cat, int_cat]) (fun ls hl => ?_)
                      exact wbL_act_554 E0 h0 x1 y1.2.1 _ hr9 _ _ _ hR9 hS (lv_sub hl [5, 6, 4] rfl)
                    obtain ⟨c66, hf⟩ := gd hf
                    obtain rfl := Option.some.inj hf
                    have hnx : ¬ y62.1 = 0 := c64
                    have hM9 := kX6_ofTask_x l hl0 G A (hK.k g3) hy62 hnx
                    rw [show exn y62.1 = "java/lang/IllegalStateException" from by rw [c66]; decide +kernel] at hM9
                    refine mm_catchV S hR hS hA hX (As := [.int y4.1, .int 4]) (rest := []) cvL_68 (hK.k g3) hM9 rfl rfl ⟨Nat.le_of_ble_eq_true rfl, Nat.le_of_ble_eq_true rfl⟩ rfl hl.1 rfl (lv_room (by simp [rf_cat, int_cat, long_cat])) dL_act_539 ⟨Nat.le_of_ble_eq_true rfl, Nat.le_of_ble_eq_true rfl⟩ (tableOf (hhAct.take 15)) ⟨474, 551, 579, 102⟩ (tableOf (hhAct.drop 16)) (by rw [htab]; rfl) (act_pass S hN (by decide)) rfl (by decide) wlS wcS (fun q9 H9 locs hR9 hS hz9 => ?_)
                    have hK9 : mmKN μ y62.2.2 := hK.tr (kX6_ofTask_kn hy62)
                    obtain ⟨r9, hr9⟩ := hz _ rfl (H9.size + 1) (by have h1 := hR.1.2; rw [hK.2.2] at h1; omega)
                    refine W.mono9 (MQ.mono9 (fun oc t h => ⟨r9, Or.inr ⟨_, _, rfl, by have h1 := hR.1.2; rw [hK.2.2] at h1; omega, hr9⟩, h⟩)) ?_
                    refine lv_astore (i := 4) (lv' := [(4, .ref q9), (14, .int 1), (13, .int 0), (3, .int y4.1), (2, .int y1.2.1), (0, rf h0), (1, .int x1)]) S.1 S.2.1 dL_act_579 hl (by decide) (by simp [rf_cat, int_cat]) (fun ls hl => ?_)
                    exact wbL_act_581 E0 h0 x1 y1.2.1 y4.1 _ hr9 _ _ _ hR9 hS (lv_sub hl [5, 6, 4, 3] rfl)
          rcases it_or hf with ⟨c69, hf⟩ | ⟨c69, hf⟩
          · skip
            obtain rfl := Option.some.inj hf
            have hnx : ¬ y41.1 = 0 := c68
            have hM9 := kX6_cancel_x l hl0 G A (hK.k g3) hy41 hnx
            rw [show exn y41.1 = "java/lang/IndexOutOfBoundsException" from by rw [c69]; decide +kernel] at hM9
            refine mm_catchV S hR hS hA hX (As := [.int y4.1]) (rest := []) cvL_96 (hK.k g3) hM9 rfl rfl ⟨Nat.le_of_ble_eq_true rfl, Nat.le_of_ble_eq_true rfl⟩ rfl hl.1 rfl (lv_room (by simp [rf_cat, int_cat, long_cat])) dL_act_510 ⟨Nat.le_of_ble_eq_true rfl, Nat.le_of_ble_eq_true rfl⟩ (tableOf (hhAct.take 7)) ⟨474, 551, 552, 100⟩ (tableOf (hhAct.drop 8)) (by rw [htab]; rfl) (fun z hz => Or.inl ((by decide : ∀ z ∈ (tableOf (hhAct.take 7)), covers z 510 = false) z hz)) rfl (by decide) wlI wcI (fun q9 H9 locs hR9 hS hz9 => ?_)
            have hK9 : mmKN μ y41.2.2 := hK.tr (kX6_cancel_kn hy41)
            obtain ⟨r9, hr9⟩ := hz _ rfl (H9.size + 1) (by have h1 := hR.1.2; rw [hK.2.2] at h1; omega)
            refine W.mono9 (MQ.mono9 (fun oc t h => ⟨r9, Or.inr ⟨_, _, rfl, by have h1 := hR.1.2; rw [hK.2.2] at h1; omega, hr9⟩, h⟩)) ?_
            refine lv_astore (i := 4) (lv' := [(4, .ref q9), (14, .int 1), (13, .int 0), (3, .int y4.1), (2, .int y1.2.1), (0, rf h0), (1, .int x1)]) S.1 S.2.1 dL_act_552 hl (by decide) (by simp [rf_cat, int_cat]) (fun ls hl => ?_)
            exact wbL_act_554 E0 h0 x1 y1.2.1 _ hr9 _ _ _ hR9 hS (lv_sub hl [5, 6, 4] rfl)
          obtain ⟨c70, hf⟩ := gd hf
          obtain rfl := Option.some.inj hf
          have hnx : ¬ y41.1 = 0 := c68
          have hM9 := kX6_cancel_x l hl0 G A (hK.k g3) hy41 hnx
          rw [show exn y41.1 = "java/lang/IllegalStateException" from by rw [c70]; decide +kernel] at hM9
          refine mm_catchV S hR hS hA hX (As := [.int y4.1]) (rest := []) cvL_96 (hK.k g3) hM9 rfl rfl ⟨Nat.le_of_ble_eq_true rfl, Nat.le_of_ble_eq_true rfl⟩ rfl hl.1 rfl (lv_room (by simp [rf_cat, int_cat, long_cat])) dL_act_510 ⟨Nat.le_of_ble_eq_true rfl, Nat.le_of_ble_eq_true rfl⟩ (tableOf (hhAct.take 15)) ⟨474, 551, 579, 102⟩ (tableOf (hhAct.drop 16)) (by rw [htab]; rfl) (act_pass S hN (by decide)) rfl (by decide) wlS wcS (fun q9 H9 locs hR9 hS hz9 => ?_)
          have hK9 : mmKN μ y41.2.2 := hK.tr (kX6_cancel_kn hy41)
          obtain ⟨r9, hr9⟩ := hz _ rfl (H9.size + 1) (by have h1 := hR.1.2; rw [hK.2.2] at h1; omega)
          refine W.mono9 (MQ.mono9 (fun oc t h => ⟨r9, Or.inr ⟨_, _, rfl, by have h1 := hR.1.2; rw [hK.2.2] at h1; omega, hr9⟩, h⟩)) ?_
          refine lv_astore (i := 4) (lv' := [(4, .ref q9), (14, .int 1), (13, .int 0), (3, .int y4.1), (2, .int y1.2.1), (0, rf h0), (1, .int x1)]) S.1 S.2.1 dL_act_579 hl (by decide) (by simp [rf_cat, int_cat]) (fun ls hl => ?_)
          exact wbL_act_581 E0 h0 x1 y1.2.1 y4.1 _ hr9 _ _ _ hR9 hS (lv_sub hl [5, 6, 4, 3] rfl)
      rcases it_or hf with ⟨c73, hf⟩ | ⟨c73, hf⟩
      · skip
        obtain rfl := Option.some.inj hf
        have hnx : ¬ y8.1 = 0 := c72
        have hM9 := kX6_ofTask_x l hl0 G A (hK.k g3) hy8 hnx
        rw [show exn y8.1 = "java/lang/IndexOutOfBoundsException" from by rw [c73]; decide +kernel] at hM9
        refine mm_catchV S hR hS hA hX (As := [.int y4.1, .int 4]) (rest := []) cvL_68 (hK.k g3) hM9 rfl rfl ⟨Nat.le_of_ble_eq_true rfl, Nat.le_of_ble_eq_true rfl⟩ rfl hl.1 rfl (lv_room (by simp [rf_cat, int_cat, long_cat])) dL_act_494 ⟨Nat.le_of_ble_eq_true rfl, Nat.le_of_ble_eq_true rfl⟩ (tableOf (hhAct.take 7)) ⟨474, 551, 552, 100⟩ (tableOf (hhAct.drop 8)) (by rw [htab]; rfl) (fun z hz => Or.inl ((by decide : ∀ z ∈ (tableOf (hhAct.take 7)), covers z 494 = false) z hz)) rfl (by decide) wlI wcI (fun q9 H9 locs hR9 hS hz9 => ?_)
        have hK9 : mmKN μ y8.2.2 := hK.tr (kX6_ofTask_kn hy8)
        obtain ⟨r9, hr9⟩ := hz _ rfl (H9.size + 1) (by have h1 := hR.1.2; rw [hK.2.2] at h1; omega)
        refine W.mono9 (MQ.mono9 (fun oc t h => ⟨r9, Or.inr ⟨_, _, rfl, by have h1 := hR.1.2; rw [hK.2.2] at h1; omega, hr9⟩, h⟩)) ?_
        refine lv_astore (i := 4) (lv' := [(4, .ref q9), (13, .int 0), (3, .int y4.1), (2, .int y1.2.1), (0, rf h0), (1, .int x1)]) S.1 S.2.1 dL_act_552 hl (by decide) (by simp [rf_cat, int_cat]) (fun ls hl => ?_)
        exact wbL_act_554 E0 h0 x1 y1.2.1 _ hr9 _ _ _ hR9 hS (lv_sub hl [4, 5, 3] rfl)
      obtain ⟨c74, hf⟩ := gd hf
      obtain rfl := Option.some.inj hf
      have hnx : ¬ y8.1 = 0 := c72
      have hM9 := kX6_ofTask_x l hl0 G A (hK.k g3) hy8 hnx
      rw [show exn y8.1 = "java/lang/IllegalStateException" from by rw [c74]; decide +kernel] at hM9
      refine mm_catchV S hR hS hA hX (As := [.int y4.1, .int 4]) (rest := []) cvL_68 (hK.k g3) hM9 rfl rfl ⟨Nat.le_of_ble_eq_true rfl, Nat.le_of_ble_eq_true rfl⟩ rfl hl.1 rfl (lv_room (by simp [rf_cat, int_cat, long_cat])) dL_act_494 ⟨Nat.le_of_ble_eq_true rfl, Nat.le_of_ble_eq_true rfl⟩ (tableOf (hhAct.take 15)) ⟨474, 551, 579, 102⟩ (tableOf (hhAct.drop 16)) (by rw [htab]; rfl) (act_pass S hN (by decide)) rfl (by decide) wlS wcS (fun q9 H9 locs hR9 hS hz9 => ?_)
      have hK9 : mmKN μ y8.2.2 := hK.tr (kX6_ofTask_kn hy8)
      obtain ⟨r9, hr9⟩ := hz _ rfl (H9.size + 1) (by have h1 := hR.1.2; rw [hK.2.2] at h1; omega)
      refine W.mono9 (MQ.mono9 (fun oc t h => ⟨r9, Or.inr ⟨_, _, rfl, by have h1 := hR.1.2; rw [hK.2.2] at h1; omega, hr9⟩, h⟩)) ?_
      refine lv_astore (i := 4) (lv' := [(4, .ref q9), (13, .int 0), (3, .int y4.1), (2, .int y1.2.1), (0, rf h0), (1, .int x1)]) S.1 S.2.1 dL_act_579 hl (by decide) (by simp [rf_cat, int_cat]) (fun ls hl => ?_)
      exact wbL_act_581 E0 h0 x1 y1.2.1 y4.1 _ hr9 _ _ _ hR9 hS (lv_sub hl [4, 5, 3, 2] rfl)
    · have hf := it_f hf c7
      refine lv_iconst (v := 1) S.1 S.2.1 dL_act_484 (by decide) ?_
      refine lv_goto (tgt := 489) S.1 S.2.1 dL_act_485 (by decide) ?_
      refine lv_istore (i := 13) (lv' := [(13, .int 1), (3, .int y4.1), (2, .int y1.2.1), (0, rf h0), (1, .int x1)]) S.1 S.2.1 dL_act_489 hl (by decide) rfl (fun ls hl => ?_)
      refine mm_aload_n S dL_act_491 rfl (lv_at hl 3 rfl) ?_
      refine lv_iload_n S.1 S.2.1 dL_act_492 rfl (lv_at hl 1 rfl) ?_
      refine lv_iconst (v := 4) S.1 S.2.1 dL_act_493 (by decide) ?_
      obtain ⟨y76, hy76, hf⟩ := bd hf
      rcases it_or hf with ⟨c140, hf⟩ | ⟨c140, hf⟩
      · refine mm_callVi S hR hS hA (As := [.int y4.1, .int 4]) (rest := []) cvL_68 (hK.k g3) (kX6_ofTask_c l G A (hK.k g3) hy76 c140) rfl rfl ⟨Nat.le_of_ble_eq_true rfl, Nat.le_of_ble_eq_true rfl⟩ rfl hl.1 rfl (lv_room (by simp [rf_cat, int_cat, long_cat])) dL_act_494 ⟨Nat.zero_le _, Nat.zero_le _⟩ (fun H locs hR hS => ?_)
        have hK : mmKN μ y76.2.2 := hK.tr (kX6_ofTask_kn hy76)
        refine lv_iconst (v := 1) S.1 S.2.1 dL_act_497 (by decide) ?_
        refine lv_icmp_ne (tgt := 505) S.1 S.2.1 dL_act_498 (by decide) (fun c77 => ?_) (fun c77 => ?_)
        · have hf := it_f hf c77
          refine lv_iconst (v := 0) S.1 S.2.1 dL_act_505 (by decide) ?_
          refine lv_istore (i := 14) (lv' := [(14, .int 0), (13, .int 1), (3, .int y4.1), (2, .int y1.2.1), (0, rf h0), (1, .int x1)]) S.1 S.2.1 dL_act_506 hl (by decide) rfl (fun ls hl => ?_)
          refine mm_aload_n S dL_act_508 rfl (lv_at hl 4 rfl) ?_
          refine lv_iload_n S.1 S.2.1 dL_act_509 rfl (lv_at hl 2 rfl) ?_
          obtain ⟨y78, hy78, hf⟩ := bd hf
          rcases it_or hf with ⟨c105, hf⟩ | ⟨c105, hf⟩
          · refine mm_callVi S hR hS hA (As := [.int y4.1]) (rest := []) cvL_96 (hK.k g3) (kX6_cancel_c l G A (hK.k g3) hy78 c105) rfl rfl ⟨Nat.le_of_ble_eq_true rfl, Nat.le_of_ble_eq_true rfl⟩ rfl hl.1 rfl (lv_room (by simp [rf_cat, int_cat, long_cat])) dL_act_510 ⟨Nat.zero_le _, Nat.zero_le _⟩ (fun H locs hR hS => ?_)
            have hK : mmKN μ y78.2.2 := hK.tr (kX6_cancel_kn hy78)
            refine lv_iload S.1 S.2.1 dL_act_513 (lv_at hl 1 rfl) ?_
            refine lv_if_ne (tgt := 527) S.1 S.2.1 dL_act_515 (by decide) (fun c79 => ?_) (fun c79 => ?_)
            · have hf := it_f hf c79
              refine lv_iconst (v := 0) S.1 S.2.1 dL_act_527 (by decide) ?_
              refine lv_icmp_ne (tgt := 550) S.1 S.2.1 dL_act_528 (by decide) (fun c80 => ?_) (fun c80 => ?_)
              · have hf := it_f hf c80
                refine lv_iconst (v := 0) S.1 S.2.1 dL_act_550 (by decide) ?_
                obtain rfl := Option.some.inj hf
                refine W.mono9 (MQ.mono9 (fun oc t h => ⟨_, Or.inl rfl, h⟩)) ?_
                refine W.widen (k := 1) (n := 6) (Nat.le_of_ble_eq_true rfl) (Nat.le_of_ble_eq_true rfl) ?_
                exact mm_zret S hR hS hr hlocks (Or.inl rfl) dL_act_551
              · have hf := it_t hf c80
                refine lv_iload S.1 S.2.1 dL_act_531 (lv_at hl 1 rfl) ?_
                refine lv_if_ne (tgt := 546) S.1 S.2.1 dL_act_533 (by decide) (fun c81 => ?_) (fun c81 => ?_)
                · have hf := it_f hf c81
                  refine lv_iconst (v := 1) S.1 S.2.1 dL_act_546 (by decide) ?_
                  refine lv_goto (tgt := 551) S.1 S.2.1 dL_act_547 (by decide) ?_
                  obtain rfl := Option.some.inj hf
                  refine W.mono9 (MQ.mono9 (fun oc t h => ⟨_, Or.inl rfl, h⟩)) ?_
                  refine W.widen (k := 1) (n := 6) (Nat.le_of_ble_eq_true rfl) (Nat.le_of_ble_eq_true rfl) ?_
                  exact mm_zret S hR hS hr hlocks (Or.inr rfl) dL_act_551
                · have hf := it_t hf c81
                  refine mm_aload_n S dL_act_536 rfl (lv_at hl 4 rfl) ?_
                  refine lv_iload_n S.1 S.2.1 dL_act_537 rfl (lv_at hl 2 rfl) ?_
                  refine lv_iconst (v := 4) S.1 S.2.1 dL_act_538 (by decide) ?_
                  obtain ⟨y82, hy82, hf⟩ := bd hf
                  rcases it_or hf with ⟨c84, hf⟩ | ⟨c84, hf⟩
                  · refine mm_callVi S hR hS hA (As := [.int y4.1, .int 4]) (rest := []) cvL_68 (hK.k g3) (kX6_ofTask_c l G A (hK.k g3) hy82 c84) rfl rfl ⟨Nat.le_of_ble_eq_true rfl, Nat.le_of_ble_eq_true rfl⟩ rfl hl.1 rfl (lv_room (by simp [rf_cat, int_cat, long_cat])) dL_act_539 ⟨Nat.zero_le _, Nat.zero_le _⟩ (fun H locs hR hS => ?_)
                    have hK : mmKN μ y82.2.2 := hK.tr (kX6_ofTask_kn hy82)
                    refine lv_iconst (v := 1) S.1 S.2.1 dL_act_542 (by decide) ?_
                    refine lv_icmp_ne (tgt := 550) S.1 S.2.1 dL_act_543 (by decide) (fun c83 => ?_) (fun c83 => ?_)
                    · have hf := it_f hf c83
                      refine lv_iconst (v := 0) S.1 S.2.1 dL_act_550 (by decide) ?_
                      obtain rfl := Option.some.inj hf
                      refine W.mono9 (MQ.mono9 (fun oc t h => ⟨_, Or.inl rfl, h⟩)) ?_
                      refine W.widen (k := 1) (n := 6) (Nat.le_of_ble_eq_true rfl) (Nat.le_of_ble_eq_true rfl) ?_
                      exact mm_zret S hR hS hr hlocks (Or.inl rfl) dL_act_551
                    · have hf := it_t hf c83
                      refine lv_iconst (v := 1) S.1 S.2.1 dL_act_546 (by decide) ?_
                      refine lv_goto (tgt := 551) S.1 S.2.1 dL_act_547 (by decide) ?_
                      obtain rfl := Option.some.inj hf
                      refine W.mono9 (MQ.mono9 (fun oc t h => ⟨_, Or.inl rfl, h⟩)) ?_
                      refine W.widen (k := 1) (n := 6) (Nat.le_of_ble_eq_true rfl) (Nat.le_of_ble_eq_true rfl) ?_
                      exact mm_zret S hR hS hr hlocks (Or.inr rfl) dL_act_551
                  rcases it_or hf with ⟨c85, hf⟩ | ⟨c85, hf⟩
                  · skip
                    obtain rfl := Option.some.inj hf
                    have hnx : ¬ y82.1 = 0 := c84
                    have hM9 := kX6_ofTask_x l hl0 G A (hK.k g3) hy82 hnx
                    rw [show exn y82.1 = "java/lang/IndexOutOfBoundsException" from by rw [c85]; decide +kernel] at hM9
                    refine mm_catchV S hR hS hA hX (As := [.int y4.1, .int 4]) (rest := []) cvL_68 (hK.k g3) hM9 rfl rfl ⟨Nat.le_of_ble_eq_true rfl, Nat.le_of_ble_eq_true rfl⟩ rfl hl.1 rfl (lv_room (by simp [rf_cat, int_cat, long_cat])) dL_act_539 ⟨Nat.le_of_ble_eq_true rfl, Nat.le_of_ble_eq_true rfl⟩ (tableOf (hhAct.take 7)) ⟨474, 551, 552, 100⟩ (tableOf (hhAct.drop 8)) (by rw [htab]; rfl) (fun z hz => Or.inl ((by decide : ∀ z ∈ (tableOf (hhAct.take 7)), covers z 539 = false) z hz)) rfl (by decide) wlI wcI (fun q9 H9 locs hR9 hS hz9 => ?_)
                    have hK9 : mmKN μ y82.2.2 := hK.tr (kX6_ofTask_kn hy82)
                    obtain ⟨r9, hr9⟩ := hz _ rfl (H9.size + 1) (by have h1 := hR.1.2; rw [hK.2.2] at h1; omega)
                    refine W.mono9 (MQ.mono9 (fun oc t h => ⟨r9, Or.inr ⟨_, _, rfl, by have h1 := hR.1.2; rw [hK.2.2] at h1; omega, hr9⟩, h⟩)) ?_
                    refine lv_astore (i := 4) (lv' := [(4, .ref q9), (14, .int 0), (13, .int 1), (3, .int y4.1), (2, .int y1.2.1), (0, rf h0), (1, .int x1)]) S.1 S.2.1 dL_act_552 hl (by decide) (by simp [rf_cat, int_cat]) (fun ls hl => ?_)
                    exact wbL_act_554 E0 h0 x1 y1.2.1 _ hr9 _ _ _ hR9 hS (lv_sub hl [5, 6, 4] rfl)
                  obtain ⟨c86, hf⟩ := gd hf
                  obtain rfl := Option.some.inj hf
                  have hnx : ¬ y82.1 = 0 := c84
                  have hM9 := kX6_ofTask_x l hl0 G A (hK.k g3) hy82 hnx
                  rw [show exn y82.1 = "java/lang/IllegalStateException" from by rw [c86]; decide +kernel] at hM9
                  refine mm_catchV S hR hS hA hX (As := [.int y4.1, .int 4]) (rest := []) cvL_68 (hK.k g3) hM9 rfl rfl ⟨Nat.le_of_ble_eq_true rfl, Nat.le_of_ble_eq_true rfl⟩ rfl hl.1 rfl (lv_room (by simp [rf_cat, int_cat, long_cat])) dL_act_539 ⟨Nat.le_of_ble_eq_true rfl, Nat.le_of_ble_eq_true rfl⟩ (tableOf (hhAct.take 15)) ⟨474, 551, 579, 102⟩ (tableOf (hhAct.drop 16)) (by rw [htab]; rfl) (act_pass S hN (by decide)) rfl (by decide) wlS wcS (fun q9 H9 locs hR9 hS hz9 => ?_)
                  have hK9 : mmKN μ y82.2.2 := hK.tr (kX6_ofTask_kn hy82)
                  obtain ⟨r9, hr9⟩ := hz _ rfl (H9.size + 1) (by have h1 := hR.1.2; rw [hK.2.2] at h1; omega)
                  refine W.mono9 (MQ.mono9 (fun oc t h => ⟨r9, Or.inr ⟨_, _, rfl, by have h1 := hR.1.2; rw [hK.2.2] at h1; omega, hr9⟩, h⟩)) ?_
                  refine lv_astore (i := 4) (lv' := [(4, .ref q9), (14, .int 0), (13, .int 1), (3, .int y4.1), (2, .int y1.2.1), (0, rf h0), (1, .int x1)]) S.1 S.2.1 dL_act_579 hl (by decide) (by simp [rf_cat, int_cat]) (fun ls hl => ?_)
                  exact wbL_act_581 E0 h0 x1 y1.2.1 y4.1 _ hr9 _ _ _ hR9 hS (lv_sub hl [5, 6, 4, 3] rfl)
            · have hf := it_t hf c79
              refine lv_iload S.1 S.2.1 dL_act_518 (lv_at hl 0 rfl) ?_
              refine lv_if_ne (tgt := 527) S.1 S.2.1 dL_act_520 (by decide) (fun c88 => ?_) (fun c88 => ?_)
              · have hf := it_f hf c88
                refine lv_iconst (v := 0) S.1 S.2.1 dL_act_527 (by decide) ?_
                refine lv_icmp_ne (tgt := 550) S.1 S.2.1 dL_act_528 (by decide) (fun c89 => ?_) (fun c89 => ?_)
                · have hf := it_f hf c89
                  refine lv_iconst (v := 0) S.1 S.2.1 dL_act_550 (by decide) ?_
                  obtain rfl := Option.some.inj hf
                  refine W.mono9 (MQ.mono9 (fun oc t h => ⟨_, Or.inl rfl, h⟩)) ?_
                  refine W.widen (k := 1) (n := 6) (Nat.le_of_ble_eq_true rfl) (Nat.le_of_ble_eq_true rfl) ?_
                  exact mm_zret S hR hS hr hlocks (Or.inl rfl) dL_act_551
                · have hf := it_t hf c89
                  refine lv_iload S.1 S.2.1 dL_act_531 (lv_at hl 1 rfl) ?_
                  refine lv_if_ne (tgt := 546) S.1 S.2.1 dL_act_533 (by decide) (fun c90 => ?_) (fun c90 => ?_)
                  · have hf := it_f hf c90
                    refine lv_iconst (v := 1) S.1 S.2.1 dL_act_546 (by decide) ?_
                    refine lv_goto (tgt := 551) S.1 S.2.1 dL_act_547 (by decide) ?_
                    obtain rfl := Option.some.inj hf
                    refine W.mono9 (MQ.mono9 (fun oc t h => ⟨_, Or.inl rfl, h⟩)) ?_
                    refine W.widen (k := 1) (n := 6) (Nat.le_of_ble_eq_true rfl) (Nat.le_of_ble_eq_true rfl) ?_
                    exact mm_zret S hR hS hr hlocks (Or.inr rfl) dL_act_551
                  · have hf := it_t hf c90
                    refine mm_aload_n S dL_act_536 rfl (lv_at hl 4 rfl) ?_
                    refine lv_iload_n S.1 S.2.1 dL_act_537 rfl (lv_at hl 2 rfl) ?_
                    refine lv_iconst (v := 4) S.1 S.2.1 dL_act_538 (by decide) ?_
                    obtain ⟨y91, hy91, hf⟩ := bd hf
                    rcases it_or hf with ⟨c93, hf⟩ | ⟨c93, hf⟩
                    · refine mm_callVi S hR hS hA (As := [.int y4.1, .int 4]) (rest := []) cvL_68 (hK.k g3) (kX6_ofTask_c l G A (hK.k g3) hy91 c93) rfl rfl ⟨Nat.le_of_ble_eq_true rfl, Nat.le_of_ble_eq_true rfl⟩ rfl hl.1 rfl (lv_room (by simp [rf_cat, int_cat, long_cat])) dL_act_539 ⟨Nat.zero_le _, Nat.zero_le _⟩ (fun H locs hR hS => ?_)
                      have hK : mmKN μ y91.2.2 := hK.tr (kX6_ofTask_kn hy91)
                      refine lv_iconst (v := 1) S.1 S.2.1 dL_act_542 (by decide) ?_
                      refine lv_icmp_ne (tgt := 550) S.1 S.2.1 dL_act_543 (by decide) (fun c92 => ?_) (fun c92 => ?_)
                      · have hf := it_f hf c92
                        refine lv_iconst (v := 0) S.1 S.2.1 dL_act_550 (by decide) ?_
                        obtain rfl := Option.some.inj hf
                        refine W.mono9 (MQ.mono9 (fun oc t h => ⟨_, Or.inl rfl, h⟩)) ?_
                        refine W.widen (k := 1) (n := 6) (Nat.le_of_ble_eq_true rfl) (Nat.le_of_ble_eq_true rfl) ?_
                        exact mm_zret S hR hS hr hlocks (Or.inl rfl) dL_act_551
                      · have hf := it_t hf c92
                        refine lv_iconst (v := 1) S.1 S.2.1 dL_act_546 (by decide) ?_
                        refine lv_goto (tgt := 551) S.1 S.2.1 dL_act_547 (by decide) ?_
                        obtain rfl := Option.some.inj hf
                        refine W.mono9 (MQ.mono9 (fun oc t h => ⟨_, Or.inl rfl, h⟩)) ?_
                        refine W.widen (k := 1) (n := 6) (Nat.le_of_ble_eq_true rfl) (Nat.le_of_ble_eq_true rfl) ?_
                        exact mm_zret S hR hS hr hlocks (Or.inr rfl) dL_act_551
                    rcases it_or hf with ⟨c94, hf⟩ | ⟨c94, hf⟩
                    · skip
                      obtain rfl := Option.some.inj hf
                      have hnx : ¬ y91.1 = 0 := c93
                      have hM9 := kX6_ofTask_x l hl0 G A (hK.k g3) hy91 hnx
                      rw [show exn y91.1 = "java/lang/IndexOutOfBoundsException" from by rw [c94]; decide +kernel] at hM9
                      refine mm_catchV S hR hS hA hX (As := [.int y4.1, .int 4]) (rest := []) cvL_68 (hK.k g3) hM9 rfl rfl ⟨Nat.le_of_ble_eq_true rfl, Nat.le_of_ble_eq_true rfl⟩ rfl hl.1 rfl (lv_room (by simp [rf_cat, int_cat, long_cat])) dL_act_539 ⟨Nat.le_of_ble_eq_true rfl, Nat.le_of_ble_eq_true rfl⟩ (tableOf (hhAct.take 7)) ⟨474, 551, 552, 100⟩ (tableOf (hhAct.drop 8)) (by rw [htab]; rfl) (fun z hz => Or.inl ((by decide : ∀ z ∈ (tableOf (hhAct.take 7)), covers z 539 = false) z hz)) rfl (by decide) wlI wcI (fun q9 H9 locs hR9 hS hz9 => ?_)
                      have hK9 : mmKN μ y91.2.2 := hK.tr (kX6_ofTask_kn hy91)
                      obtain ⟨r9, hr9⟩ := hz _ rfl (H9.size + 1) (by have h1 := hR.1.2; rw [hK.2.2] at h1; omega)
                      refine W.mono9 (MQ.mono9 (fun oc t h => ⟨r9, Or.inr ⟨_, _, rfl, by have h1 := hR.1.2; rw [hK.2.2] at h1; omega, hr9⟩, h⟩)) ?_
                      refine lv_astore (i := 4) (lv' := [(4, .ref q9), (14, .int 0), (13, .int 1), (3, .int y4.1), (2, .int y1.2.1), (0, rf h0), (1, .int x1)]) S.1 S.2.1 dL_act_552 hl (by decide) (by simp [rf_cat, int_cat]) (fun ls hl => ?_)
                      exact wbL_act_554 E0 h0 x1 y1.2.1 _ hr9 _ _ _ hR9 hS (lv_sub hl [5, 6, 4] rfl)
                    obtain ⟨c95, hf⟩ := gd hf
                    obtain rfl := Option.some.inj hf
                    have hnx : ¬ y91.1 = 0 := c93
                    have hM9 := kX6_ofTask_x l hl0 G A (hK.k g3) hy91 hnx
                    rw [show exn y91.1 = "java/lang/IllegalStateException" from by rw [c95]; decide +kernel] at hM9
                    refine mm_catchV S hR hS hA hX (As := [.int y4.1, .int 4]) (rest := []) cvL_68 (hK.k g3) hM9 rfl rfl ⟨Nat.le_of_ble_eq_true rfl, Nat.le_of_ble_eq_true rfl⟩ rfl hl.1 rfl (lv_room (by simp [rf_cat, int_cat, long_cat])) dL_act_539 ⟨Nat.le_of_ble_eq_true rfl, Nat.le_of_ble_eq_true rfl⟩ (tableOf (hhAct.take 15)) ⟨474, 551, 579, 102⟩ (tableOf (hhAct.drop 16)) (by rw [htab]; rfl) (act_pass S hN (by decide)) rfl (by decide) wlS wcS (fun q9 H9 locs hR9 hS hz9 => ?_)
                    have hK9 : mmKN μ y91.2.2 := hK.tr (kX6_ofTask_kn hy91)
                    obtain ⟨r9, hr9⟩ := hz _ rfl (H9.size + 1) (by have h1 := hR.1.2; rw [hK.2.2] at h1; omega)
                    refine W.mono9 (MQ.mono9 (fun oc t h => ⟨r9, Or.inr ⟨_, _, rfl, by have h1 := hR.1.2; rw [hK.2.2] at h1; omega, hr9⟩, h⟩)) ?_
                    refine lv_astore (i := 4) (lv' := [(4, .ref q9), (14, .int 0), (13, .int 1), (3, .int y4.1), (2, .int y1.2.1), (0, rf h0), (1, .int x1)]) S.1 S.2.1 dL_act_579 hl (by decide) (by simp [rf_cat, int_cat]) (fun ls hl => ?_)
                    exact wbL_act_581 E0 h0 x1 y1.2.1 y4.1 _ hr9 _ _ _ hR9 hS (lv_sub hl [5, 6, 4, 3] rfl)
              · have hf := it_t hf c88
                refine lv_iconst (v := 1) S.1 S.2.1 dL_act_523 (by decide) ?_
                refine lv_goto (tgt := 528) S.1 S.2.1 dL_act_524 (by decide) ?_
                refine lv_icmp_ne (tgt := 550) S.1 S.2.1 dL_act_528 (by decide) (fun c97 => ?_) (fun c97 => ?_)
                · have hf := it_f hf c97
                  refine lv_iconst (v := 0) S.1 S.2.1 dL_act_550 (by decide) ?_
                  obtain rfl := Option.some.inj hf
                  refine W.mono9 (MQ.mono9 (fun oc t h => ⟨_, Or.inl rfl, h⟩)) ?_
                  refine W.widen (k := 1) (n := 6) (Nat.le_of_ble_eq_true rfl) (Nat.le_of_ble_eq_true rfl) ?_
                  exact mm_zret S hR hS hr hlocks (Or.inl rfl) dL_act_551
                · have hf := it_t hf c97
                  refine lv_iload S.1 S.2.1 dL_act_531 (lv_at hl 1 rfl) ?_
                  refine lv_if_ne (tgt := 546) S.1 S.2.1 dL_act_533 (by decide) (fun c98 => ?_) (fun c98 => ?_)
                  · have hf := it_f hf c98
                    refine lv_iconst (v := 1) S.1 S.2.1 dL_act_546 (by decide) ?_
                    refine lv_goto (tgt := 551) S.1 S.2.1 dL_act_547 (by decide) ?_
                    obtain rfl := Option.some.inj hf
                    refine W.mono9 (MQ.mono9 (fun oc t h => ⟨_, Or.inl rfl, h⟩)) ?_
                    refine W.widen (k := 1) (n := 6) (Nat.le_of_ble_eq_true rfl) (Nat.le_of_ble_eq_true rfl) ?_
                    exact mm_zret S hR hS hr hlocks (Or.inr rfl) dL_act_551
                  · have hf := it_t hf c98
                    refine mm_aload_n S dL_act_536 rfl (lv_at hl 4 rfl) ?_
                    refine lv_iload_n S.1 S.2.1 dL_act_537 rfl (lv_at hl 2 rfl) ?_
                    refine lv_iconst (v := 4) S.1 S.2.1 dL_act_538 (by decide) ?_
                    obtain ⟨y99, hy99, hf⟩ := bd hf
                    rcases it_or hf with ⟨c101, hf⟩ | ⟨c101, hf⟩
                    · refine mm_callVi S hR hS hA (As := [.int y4.1, .int 4]) (rest := []) cvL_68 (hK.k g3) (kX6_ofTask_c l G A (hK.k g3) hy99 c101) rfl rfl ⟨Nat.le_of_ble_eq_true rfl, Nat.le_of_ble_eq_true rfl⟩ rfl hl.1 rfl (lv_room (by simp [rf_cat, int_cat, long_cat])) dL_act_539 ⟨Nat.zero_le _, Nat.zero_le _⟩ (fun H locs hR hS => ?_)
                      have hK : mmKN μ y99.2.2 := hK.tr (kX6_ofTask_kn hy99)
                      refine lv_iconst (v := 1) S.1 S.2.1 dL_act_542 (by decide) ?_
                      refine lv_icmp_ne (tgt := 550) S.1 S.2.1 dL_act_543 (by decide) (fun c100 => ?_) (fun c100 => ?_)
                      · have hf := it_f hf c100
                        refine lv_iconst (v := 0) S.1 S.2.1 dL_act_550 (by decide) ?_
                        obtain rfl := Option.some.inj hf
                        refine W.mono9 (MQ.mono9 (fun oc t h => ⟨_, Or.inl rfl, h⟩)) ?_
                        refine W.widen (k := 1) (n := 6) (Nat.le_of_ble_eq_true rfl) (Nat.le_of_ble_eq_true rfl) ?_
                        exact mm_zret S hR hS hr hlocks (Or.inl rfl) dL_act_551
                      · have hf := it_t hf c100
                        refine lv_iconst (v := 1) S.1 S.2.1 dL_act_546 (by decide) ?_
                        refine lv_goto (tgt := 551) S.1 S.2.1 dL_act_547 (by decide) ?_
                        obtain rfl := Option.some.inj hf
                        refine W.mono9 (MQ.mono9 (fun oc t h => ⟨_, Or.inl rfl, h⟩)) ?_
                        refine W.widen (k := 1) (n := 6) (Nat.le_of_ble_eq_true rfl) (Nat.le_of_ble_eq_true rfl) ?_
                        exact mm_zret S hR hS hr hlocks (Or.inr rfl) dL_act_551
                    rcases it_or hf with ⟨c102, hf⟩ | ⟨c102, hf⟩
                    · skip
                      obtain rfl := Option.some.inj hf
                      have hnx : ¬ y99.1 = 0 := c101
                      have hM9 := kX6_ofTask_x l hl0 G A (hK.k g3) hy99 hnx
                      rw [show exn y99.1 = "java/lang/IndexOutOfBoundsException" from by rw [c102]; decide +kernel] at hM9
                      refine mm_catchV S hR hS hA hX (As := [.int y4.1, .int 4]) (rest := []) cvL_68 (hK.k g3) hM9 rfl rfl ⟨Nat.le_of_ble_eq_true rfl, Nat.le_of_ble_eq_true rfl⟩ rfl hl.1 rfl (lv_room (by simp [rf_cat, int_cat, long_cat])) dL_act_539 ⟨Nat.le_of_ble_eq_true rfl, Nat.le_of_ble_eq_true rfl⟩ (tableOf (hhAct.take 7)) ⟨474, 551, 552, 100⟩ (tableOf (hhAct.drop 8)) (by rw [htab]; rfl) (fun z hz => Or.inl ((by decide : ∀ z ∈ (tableOf (hhAct.take 7)), covers z 539 = false) z hz)) rfl (by decide) wlI wcI (fun q9 H9 locs hR9 hS hz9 => ?_)
                      have hK9 : mmKN μ y99.2.2 := hK.tr (kX6_ofTask_kn hy99)
                      obtain ⟨r9, hr9⟩ := hz _ rfl (H9.size + 1) (by have h1 := hR.1.2; rw [hK.2.2] at h1; omega)
                      refine W.mono9 (MQ.mono9 (fun oc t h => ⟨r9, Or.inr ⟨_, _, rfl, by have h1 := hR.1.2; rw [hK.2.2] at h1; omega, hr9⟩, h⟩)) ?_
                      refine lv_astore (i := 4) (lv' := [(4, .ref q9), (14, .int 0), (13, .int 1), (3, .int y4.1), (2, .int y1.2.1), (0, rf h0), (1, .int x1)]) S.1 S.2.1 dL_act_552 hl (by decide) (by simp [rf_cat, int_cat]) (fun ls hl => ?_)
                      exact wbL_act_554 E0 h0 x1 y1.2.1 _ hr9 _ _ _ hR9 hS (lv_sub hl [5, 6, 4] rfl)
                    obtain ⟨c103, hf⟩ := gd hf
                    obtain rfl := Option.some.inj hf
                    have hnx : ¬ y99.1 = 0 := c101
                    have hM9 := kX6_ofTask_x l hl0 G A (hK.k g3) hy99 hnx
                    rw [show exn y99.1 = "java/lang/IllegalStateException" from by rw [c103]; decide +kernel] at hM9
                    refine mm_catchV S hR hS hA hX (As := [.int y4.1, .int 4]) (rest := []) cvL_68 (hK.k g3) hM9 rfl rfl ⟨Nat.le_of_ble_eq_true rfl, Nat.le_of_ble_eq_true rfl⟩ rfl hl.1 rfl (lv_room (by simp [rf_cat, int_cat, long_cat])) dL_act_539 ⟨Nat.le_of_ble_eq_true rfl, Nat.le_of_ble_eq_true rfl⟩ (tableOf (hhAct.take 15)) ⟨474, 551, 579, 102⟩ (tableOf (hhAct.drop 16)) (by rw [htab]; rfl) (act_pass S hN (by decide)) rfl (by decide) wlS wcS (fun q9 H9 locs hR9 hS hz9 => ?_)
                    have hK9 : mmKN μ y99.2.2 := hK.tr (kX6_ofTask_kn hy99)
                    obtain ⟨r9, hr9⟩ := hz _ rfl (H9.size + 1) (by have h1 := hR.1.2; rw [hK.2.2] at h1; omega)
                    refine W.mono9 (MQ.mono9 (fun oc t h => ⟨r9, Or.inr ⟨_, _, rfl, by have h1 := hR.1.2; rw [hK.2.2] at h1; omega, hr9⟩, h⟩)) ?_
                    refine lv_astore (i := 4) (lv' := [(4, .ref q9), (14, .int 0), (13, .int 1), (3, .int y4.1), (2, .int y1.2.1), (0, rf h0), (1, .int x1)]) S.1 S.2.1 dL_act_579 hl (by decide) (by simp [rf_cat, int_cat]) (fun ls hl => ?_)
                    exact wbL_act_581 E0 h0 x1 y1.2.1 y4.1 _ hr9 _ _ _ hR9 hS (lv_sub hl [5, 6, 4, 3] rfl)
          rcases it_or hf with ⟨c106, hf⟩ | ⟨c106, hf⟩
          · skip
            obtain rfl := Option.some.inj hf
            have hnx : ¬ y78.1 = 0 := c105
            have hM9 := kX6_cancel_x l hl0 G A (hK.k g3) hy78 hnx
            rw [show exn y78.1 = "java/lang/IndexOutOfBoundsException" from by rw [c106]; decide +kernel] at hM9
            refine mm_catchV S hR hS hA hX (As := [.int y4.1]) (rest := []) cvL_96 (hK.k g3) hM9 rfl rfl ⟨Nat.le_of_ble_eq_true rfl, Nat.le_of_ble_eq_true rfl⟩ rfl hl.1 rfl (lv_room (by simp [rf_cat, int_cat, long_cat])) dL_act_510 ⟨Nat.le_of_ble_eq_true rfl, Nat.le_of_ble_eq_true rfl⟩ (tableOf (hhAct.take 7)) ⟨474, 551, 552, 100⟩ (tableOf (hhAct.drop 8)) (by rw [htab]; rfl) (fun z hz => Or.inl ((by decide : ∀ z ∈ (tableOf (hhAct.take 7)), covers z 510 = false) z hz)) rfl (by decide) wlI wcI (fun q9 H9 locs hR9 hS hz9 => ?_)
            have hK9 : mmKN μ y78.2.2 := hK.tr (kX6_cancel_kn hy78)
            obtain ⟨r9, hr9⟩ := hz _ rfl (H9.size + 1) (by have h1 := hR.1.2; rw [hK.2.2] at h1; omega)
            refine W.mono9 (MQ.mono9 (fun oc t h => ⟨r9, Or.inr ⟨_, _, rfl, by have h1 := hR.1.2; rw [hK.2.2] at h1; omega, hr9⟩, h⟩)) ?_
            refine lv_astore (i := 4) (lv' := [(4, .ref q9), (14, .int 0), (13, .int 1), (3, .int y4.1), (2, .int y1.2.1), (0, rf h0), (1, .int x1)]) S.1 S.2.1 dL_act_552 hl (by decide) (by simp [rf_cat, int_cat]) (fun ls hl => ?_)
            exact wbL_act_554 E0 h0 x1 y1.2.1 _ hr9 _ _ _ hR9 hS (lv_sub hl [5, 6, 4] rfl)
          obtain ⟨c107, hf⟩ := gd hf
          obtain rfl := Option.some.inj hf
          have hnx : ¬ y78.1 = 0 := c105
          have hM9 := kX6_cancel_x l hl0 G A (hK.k g3) hy78 hnx
          rw [show exn y78.1 = "java/lang/IllegalStateException" from by rw [c107]; decide +kernel] at hM9
          refine mm_catchV S hR hS hA hX (As := [.int y4.1]) (rest := []) cvL_96 (hK.k g3) hM9 rfl rfl ⟨Nat.le_of_ble_eq_true rfl, Nat.le_of_ble_eq_true rfl⟩ rfl hl.1 rfl (lv_room (by simp [rf_cat, int_cat, long_cat])) dL_act_510 ⟨Nat.le_of_ble_eq_true rfl, Nat.le_of_ble_eq_true rfl⟩ (tableOf (hhAct.take 15)) ⟨474, 551, 579, 102⟩ (tableOf (hhAct.drop 16)) (by rw [htab]; rfl) (act_pass S hN (by decide)) rfl (by decide) wlS wcS (fun q9 H9 locs hR9 hS hz9 => ?_)
          have hK9 : mmKN μ y78.2.2 := hK.tr (kX6_cancel_kn hy78)
          obtain ⟨r9, hr9⟩ := hz _ rfl (H9.size + 1) (by have h1 := hR.1.2; rw [hK.2.2] at h1; omega)
          refine W.mono9 (MQ.mono9 (fun oc t h => ⟨r9, Or.inr ⟨_, _, rfl, by have h1 := hR.1.2; rw [hK.2.2] at h1; omega, hr9⟩, h⟩)) ?_
          refine lv_astore (i := 4) (lv' := [(4, .ref q9), (14, .int 0), (13, .int 1), (3, .int y4.1), (2, .int y1.2.1), (0, rf h0), (1, .int x1)]) S.1 S.2.1 dL_act_579 hl (by decide) (by simp [rf_cat, int_cat]) (fun ls hl => ?_)
          exact wbL_act_581 E0 h0 x1 y1.2.1 y4.1 _ hr9 _ _ _ hR9 hS (lv_sub hl [5, 6, 4, 3] rfl)
        · have hf := it_t hf c77
          refine lv_iconst (v := 1) S.1 S.2.1 dL_act_501 (by decide) ?_
          refine lv_goto (tgt := 506) S.1 S.2.1 dL_act_502 (by decide) ?_
          refine lv_istore (i := 14) (lv' := [(14, .int 1), (13, .int 1), (3, .int y4.1), (2, .int y1.2.1), (0, rf h0), (1, .int x1)]) S.1 S.2.1 dL_act_506 hl (by decide) rfl (fun ls hl => ?_)
          refine mm_aload_n S dL_act_508 rfl (lv_at hl 4 rfl) ?_
          refine lv_iload_n S.1 S.2.1 dL_act_509 rfl (lv_at hl 2 rfl) ?_
          obtain ⟨y109, hy109, hf⟩ := bd hf
          rcases it_or hf with ⟨c136, hf⟩ | ⟨c136, hf⟩
          · refine mm_callVi S hR hS hA (As := [.int y4.1]) (rest := []) cvL_96 (hK.k g3) (kX6_cancel_c l G A (hK.k g3) hy109 c136) rfl rfl ⟨Nat.le_of_ble_eq_true rfl, Nat.le_of_ble_eq_true rfl⟩ rfl hl.1 rfl (lv_room (by simp [rf_cat, int_cat, long_cat])) dL_act_510 ⟨Nat.zero_le _, Nat.zero_le _⟩ (fun H locs hR hS => ?_)
            have hK : mmKN μ y109.2.2 := hK.tr (kX6_cancel_kn hy109)
            refine lv_iload S.1 S.2.1 dL_act_513 (lv_at hl 1 rfl) ?_
            refine lv_if_ne (tgt := 527) S.1 S.2.1 dL_act_515 (by decide) (fun c110 => ?_) (fun c110 => ?_)
            · have hf := it_f hf c110
              refine lv_iconst (v := 0) S.1 S.2.1 dL_act_527 (by decide) ?_
              refine lv_icmp_ne (tgt := 550) S.1 S.2.1 dL_act_528 (by decide) (fun c111 => ?_) (fun c111 => ?_)
              · have hf := it_f hf c111
                refine lv_iconst (v := 0) S.1 S.2.1 dL_act_550 (by decide) ?_
                obtain rfl := Option.some.inj hf
                refine W.mono9 (MQ.mono9 (fun oc t h => ⟨_, Or.inl rfl, h⟩)) ?_
                refine W.widen (k := 1) (n := 6) (Nat.le_of_ble_eq_true rfl) (Nat.le_of_ble_eq_true rfl) ?_
                exact mm_zret S hR hS hr hlocks (Or.inl rfl) dL_act_551
              · have hf := it_t hf c111
                refine lv_iload S.1 S.2.1 dL_act_531 (lv_at hl 1 rfl) ?_
                refine lv_if_ne (tgt := 546) S.1 S.2.1 dL_act_533 (by decide) (fun c112 => ?_) (fun c112 => ?_)
                · have hf := it_f hf c112
                  refine lv_iconst (v := 1) S.1 S.2.1 dL_act_546 (by decide) ?_
                  refine lv_goto (tgt := 551) S.1 S.2.1 dL_act_547 (by decide) ?_
                  obtain rfl := Option.some.inj hf
                  refine W.mono9 (MQ.mono9 (fun oc t h => ⟨_, Or.inl rfl, h⟩)) ?_
                  refine W.widen (k := 1) (n := 6) (Nat.le_of_ble_eq_true rfl) (Nat.le_of_ble_eq_true rfl) ?_
                  exact mm_zret S hR hS hr hlocks (Or.inr rfl) dL_act_551
                · have hf := it_t hf c112
                  refine mm_aload_n S dL_act_536 rfl (lv_at hl 4 rfl) ?_
                  refine lv_iload_n S.1 S.2.1 dL_act_537 rfl (lv_at hl 2 rfl) ?_
                  refine lv_iconst (v := 4) S.1 S.2.1 dL_act_538 (by decide) ?_
                  obtain ⟨y113, hy113, hf⟩ := bd hf
                  rcases it_or hf with ⟨c115, hf⟩ | ⟨c115, hf⟩
                  · refine mm_callVi S hR hS hA (As := [.int y4.1, .int 4]) (rest := []) cvL_68 (hK.k g3) (kX6_ofTask_c l G A (hK.k g3) hy113 c115) rfl rfl ⟨Nat.le_of_ble_eq_true rfl, Nat.le_of_ble_eq_true rfl⟩ rfl hl.1 rfl (lv_room (by simp [rf_cat, int_cat, long_cat])) dL_act_539 ⟨Nat.zero_le _, Nat.zero_le _⟩ (fun H locs hR hS => ?_)
                    have hK : mmKN μ y113.2.2 := hK.tr (kX6_ofTask_kn hy113)
                    refine lv_iconst (v := 1) S.1 S.2.1 dL_act_542 (by decide) ?_
                    refine lv_icmp_ne (tgt := 550) S.1 S.2.1 dL_act_543 (by decide) (fun c114 => ?_) (fun c114 => ?_)
                    · have hf := it_f hf c114
                      refine lv_iconst (v := 0) S.1 S.2.1 dL_act_550 (by decide) ?_
                      obtain rfl := Option.some.inj hf
                      refine W.mono9 (MQ.mono9 (fun oc t h => ⟨_, Or.inl rfl, h⟩)) ?_
                      refine W.widen (k := 1) (n := 6) (Nat.le_of_ble_eq_true rfl) (Nat.le_of_ble_eq_true rfl) ?_
                      exact mm_zret S hR hS hr hlocks (Or.inl rfl) dL_act_551
                    · have hf := it_t hf c114
                      refine lv_iconst (v := 1) S.1 S.2.1 dL_act_546 (by decide) ?_
                      refine lv_goto (tgt := 551) S.1 S.2.1 dL_act_547 (by decide) ?_
                      obtain rfl := Option.some.inj hf
                      refine W.mono9 (MQ.mono9 (fun oc t h => ⟨_, Or.inl rfl, h⟩)) ?_
                      refine W.widen (k := 1) (n := 6) (Nat.le_of_ble_eq_true rfl) (Nat.le_of_ble_eq_true rfl) ?_
                      exact mm_zret S hR hS hr hlocks (Or.inr rfl) dL_act_551
                  rcases it_or hf with ⟨c116, hf⟩ | ⟨c116, hf⟩
                  · skip
                    obtain rfl := Option.some.inj hf
                    have hnx : ¬ y113.1 = 0 := c115
                    have hM9 := kX6_ofTask_x l hl0 G A (hK.k g3) hy113 hnx
                    rw [show exn y113.1 = "java/lang/IndexOutOfBoundsException" from by rw [c116]; decide +kernel] at hM9
                    refine mm_catchV S hR hS hA hX (As := [.int y4.1, .int 4]) (rest := []) cvL_68 (hK.k g3) hM9 rfl rfl ⟨Nat.le_of_ble_eq_true rfl, Nat.le_of_ble_eq_true rfl⟩ rfl hl.1 rfl (lv_room (by simp [rf_cat, int_cat, long_cat])) dL_act_539 ⟨Nat.le_of_ble_eq_true rfl, Nat.le_of_ble_eq_true rfl⟩ (tableOf (hhAct.take 7)) ⟨474, 551, 552, 100⟩ (tableOf (hhAct.drop 8)) (by rw [htab]; rfl) (fun z hz => Or.inl ((by decide : ∀ z ∈ (tableOf (hhAct.take 7)), covers z 539 = false) z hz)) rfl (by decide) wlI wcI (fun q9 H9 locs hR9 hS hz9 => ?_)
                    have hK9 : mmKN μ y113.2.2 := hK.tr (kX6_ofTask_kn hy113)
                    obtain ⟨r9, hr9⟩ := hz _ rfl (H9.size + 1) (by have h1 := hR.1.2; rw [hK.2.2] at h1; omega)
                    refine W.mono9 (MQ.mono9 (fun oc t h => ⟨r9, Or.inr ⟨_, _, rfl, by have h1 := hR.1.2; rw [hK.2.2] at h1; omega, hr9⟩, h⟩)) ?_
                    refine lv_astore (i := 4) (lv' := [(4, .ref q9), (14, .int 1), (13, .int 1), (3, .int y4.1), (2, .int y1.2.1), (0, rf h0), (1, .int x1)]) S.1 S.2.1 dL_act_552 hl (by decide) (by simp [rf_cat, int_cat]) (fun ls hl => ?_)
                    exact wbL_act_554 E0 h0 x1 y1.2.1 _ hr9 _ _ _ hR9 hS (lv_sub hl [5, 6, 4] rfl)
                  obtain ⟨c117, hf⟩ := gd hf
                  obtain rfl := Option.some.inj hf
                  have hnx : ¬ y113.1 = 0 := c115
                  have hM9 := kX6_ofTask_x l hl0 G A (hK.k g3) hy113 hnx
                  rw [show exn y113.1 = "java/lang/IllegalStateException" from by rw [c117]; decide +kernel] at hM9
                  refine mm_catchV S hR hS hA hX (As := [.int y4.1, .int 4]) (rest := []) cvL_68 (hK.k g3) hM9 rfl rfl ⟨Nat.le_of_ble_eq_true rfl, Nat.le_of_ble_eq_true rfl⟩ rfl hl.1 rfl (lv_room (by simp [rf_cat, int_cat, long_cat])) dL_act_539 ⟨Nat.le_of_ble_eq_true rfl, Nat.le_of_ble_eq_true rfl⟩ (tableOf (hhAct.take 15)) ⟨474, 551, 579, 102⟩ (tableOf (hhAct.drop 16)) (by rw [htab]; rfl) (act_pass S hN (by decide)) rfl (by decide) wlS wcS (fun q9 H9 locs hR9 hS hz9 => ?_)
                  have hK9 : mmKN μ y113.2.2 := hK.tr (kX6_ofTask_kn hy113)
                  obtain ⟨r9, hr9⟩ := hz _ rfl (H9.size + 1) (by have h1 := hR.1.2; rw [hK.2.2] at h1; omega)
                  refine W.mono9 (MQ.mono9 (fun oc t h => ⟨r9, Or.inr ⟨_, _, rfl, by have h1 := hR.1.2; rw [hK.2.2] at h1; omega, hr9⟩, h⟩)) ?_
                  refine lv_astore (i := 4) (lv' := [(4, .ref q9), (14, .int 1), (13, .int 1), (3, .int y4.1), (2, .int y1.2.1), (0, rf h0), (1, .int x1)]) S.1 S.2.1 dL_act_579 hl (by decide) (by simp [rf_cat, int_cat]) (fun ls hl => ?_)
                  exact wbL_act_581 E0 h0 x1 y1.2.1 y4.1 _ hr9 _ _ _ hR9 hS (lv_sub hl [5, 6, 4, 3] rfl)
            · have hf := it_t hf c110
              refine lv_iload S.1 S.2.1 dL_act_518 (lv_at hl 0 rfl) ?_
              refine lv_if_ne (tgt := 527) S.1 S.2.1 dL_act_520 (by decide) (fun c119 => ?_) (fun c119 => ?_)
              · have hf := it_f hf c119
                refine lv_iconst (v := 0) S.1 S.2.1 dL_act_527 (by decide) ?_
                refine lv_icmp_ne (tgt := 550) S.1 S.2.1 dL_act_528 (by decide) (fun c120 => ?_) (fun c120 => ?_)
                · have hf := it_f hf c120
                  refine lv_iconst (v := 0) S.1 S.2.1 dL_act_550 (by decide) ?_
                  obtain rfl := Option.some.inj hf
                  refine W.mono9 (MQ.mono9 (fun oc t h => ⟨_, Or.inl rfl, h⟩)) ?_
                  refine W.widen (k := 1) (n := 6) (Nat.le_of_ble_eq_true rfl) (Nat.le_of_ble_eq_true rfl) ?_
                  exact mm_zret S hR hS hr hlocks (Or.inl rfl) dL_act_551
                · have hf := it_t hf c120
                  refine lv_iload S.1 S.2.1 dL_act_531 (lv_at hl 1 rfl) ?_
                  refine lv_if_ne (tgt := 546) S.1 S.2.1 dL_act_533 (by decide) (fun c121 => ?_) (fun c121 => ?_)
                  · have hf := it_f hf c121
                    refine lv_iconst (v := 1) S.1 S.2.1 dL_act_546 (by decide) ?_
                    refine lv_goto (tgt := 551) S.1 S.2.1 dL_act_547 (by decide) ?_
                    obtain rfl := Option.some.inj hf
                    refine W.mono9 (MQ.mono9 (fun oc t h => ⟨_, Or.inl rfl, h⟩)) ?_
                    refine W.widen (k := 1) (n := 6) (Nat.le_of_ble_eq_true rfl) (Nat.le_of_ble_eq_true rfl) ?_
                    exact mm_zret S hR hS hr hlocks (Or.inr rfl) dL_act_551
                  · have hf := it_t hf c121
                    refine mm_aload_n S dL_act_536 rfl (lv_at hl 4 rfl) ?_
                    refine lv_iload_n S.1 S.2.1 dL_act_537 rfl (lv_at hl 2 rfl) ?_
                    refine lv_iconst (v := 4) S.1 S.2.1 dL_act_538 (by decide) ?_
                    obtain ⟨y122, hy122, hf⟩ := bd hf
                    rcases it_or hf with ⟨c124, hf⟩ | ⟨c124, hf⟩
                    · refine mm_callVi S hR hS hA (As := [.int y4.1, .int 4]) (rest := []) cvL_68 (hK.k g3) (kX6_ofTask_c l G A (hK.k g3) hy122 c124) rfl rfl ⟨Nat.le_of_ble_eq_true rfl, Nat.le_of_ble_eq_true rfl⟩ rfl hl.1 rfl (lv_room (by simp [rf_cat, int_cat, long_cat])) dL_act_539 ⟨Nat.zero_le _, Nat.zero_le _⟩ (fun H locs hR hS => ?_)
                      have hK : mmKN μ y122.2.2 := hK.tr (kX6_ofTask_kn hy122)
                      refine lv_iconst (v := 1) S.1 S.2.1 dL_act_542 (by decide) ?_
                      refine lv_icmp_ne (tgt := 550) S.1 S.2.1 dL_act_543 (by decide) (fun c123 => ?_) (fun c123 => ?_)
                      · have hf := it_f hf c123
                        refine lv_iconst (v := 0) S.1 S.2.1 dL_act_550 (by decide) ?_
                        obtain rfl := Option.some.inj hf
                        refine W.mono9 (MQ.mono9 (fun oc t h => ⟨_, Or.inl rfl, h⟩)) ?_
                        refine W.widen (k := 1) (n := 6) (Nat.le_of_ble_eq_true rfl) (Nat.le_of_ble_eq_true rfl) ?_
                        exact mm_zret S hR hS hr hlocks (Or.inl rfl) dL_act_551
                      · have hf := it_t hf c123
                        refine lv_iconst (v := 1) S.1 S.2.1 dL_act_546 (by decide) ?_
                        refine lv_goto (tgt := 551) S.1 S.2.1 dL_act_547 (by decide) ?_
                        obtain rfl := Option.some.inj hf
                        refine W.mono9 (MQ.mono9 (fun oc t h => ⟨_, Or.inl rfl, h⟩)) ?_
                        refine W.widen (k := 1) (n := 6) (Nat.le_of_ble_eq_true rfl) (Nat.le_of_ble_eq_true rfl) ?_
                        exact mm_zret S hR hS hr hlocks (Or.inr rfl) dL_act_551
                    rcases it_or hf with ⟨c125, hf⟩ | ⟨c125, hf⟩
                    · skip
                      obtain rfl := Option.some.inj hf
                      have hnx : ¬ y122.1 = 0 := c124
                      have hM9 := kX6_ofTask_x l hl0 G A (hK.k g3) hy122 hnx
                      rw [show exn y122.1 = "java/lang/IndexOutOfBoundsException" from by rw [c125]; decide +kernel] at hM9
                      refine mm_catchV S hR hS hA hX (As := [.int y4.1, .int 4]) (rest := []) cvL_68 (hK.k g3) hM9 rfl rfl ⟨Nat.le_of_ble_eq_true rfl, Nat.le_of_ble_eq_true rfl⟩ rfl hl.1 rfl (lv_room (by simp [rf_cat, int_cat, long_cat])) dL_act_539 ⟨Nat.le_of_ble_eq_true rfl, Nat.le_of_ble_eq_true rfl⟩ (tableOf (hhAct.take 7)) ⟨474, 551, 552, 100⟩ (tableOf (hhAct.drop 8)) (by rw [htab]; rfl) (fun z hz => Or.inl ((by decide : ∀ z ∈ (tableOf (hhAct.take 7)), covers z 539 = false) z hz)) rfl (by decide) wlI wcI (fun q9 H9 locs hR9 hS hz9 => ?_)
                      have hK9 : mmKN μ y122.2.2 := hK.tr (kX6_ofTask_kn hy122)
                      obtain ⟨r9, hr9⟩ := hz _ rfl (H9.size + 1) (by have h1 := hR.1.2; rw [hK.2.2] at h1; omega)
                      refine W.mono9 (MQ.mono9 (fun oc t h => ⟨r9, Or.inr ⟨_, _, rfl, by have h1 := hR.1.2; rw [hK.2.2] at h1; omega, hr9⟩, h⟩)) ?_
                      refine lv_astore (i := 4) (lv' := [(4, .ref q9), (14, .int 1), (13, .int 1), (3, .int y4.1), (2, .int y1.2.1), (0, rf h0), (1, .int x1)]) S.1 S.2.1 dL_act_552 hl (by decide) (by simp [rf_cat, int_cat]) (fun ls hl => ?_)
                      exact wbL_act_554 E0 h0 x1 y1.2.1 _ hr9 _ _ _ hR9 hS (lv_sub hl [5, 6, 4] rfl)
                    obtain ⟨c126, hf⟩ := gd hf
                    obtain rfl := Option.some.inj hf
                    have hnx : ¬ y122.1 = 0 := c124
                    have hM9 := kX6_ofTask_x l hl0 G A (hK.k g3) hy122 hnx
                    rw [show exn y122.1 = "java/lang/IllegalStateException" from by rw [c126]; decide +kernel] at hM9
                    refine mm_catchV S hR hS hA hX (As := [.int y4.1, .int 4]) (rest := []) cvL_68 (hK.k g3) hM9 rfl rfl ⟨Nat.le_of_ble_eq_true rfl, Nat.le_of_ble_eq_true rfl⟩ rfl hl.1 rfl (lv_room (by simp [rf_cat, int_cat, long_cat])) dL_act_539 ⟨Nat.le_of_ble_eq_true rfl, Nat.le_of_ble_eq_true rfl⟩ (tableOf (hhAct.take 15)) ⟨474, 551, 579, 102⟩ (tableOf (hhAct.drop 16)) (by rw [htab]; rfl) (act_pass S hN (by decide)) rfl (by decide) wlS wcS (fun q9 H9 locs hR9 hS hz9 => ?_)
                    have hK9 : mmKN μ y122.2.2 := hK.tr (kX6_ofTask_kn hy122)
                    obtain ⟨r9, hr9⟩ := hz _ rfl (H9.size + 1) (by have h1 := hR.1.2; rw [hK.2.2] at h1; omega)
                    refine W.mono9 (MQ.mono9 (fun oc t h => ⟨r9, Or.inr ⟨_, _, rfl, by have h1 := hR.1.2; rw [hK.2.2] at h1; omega, hr9⟩, h⟩)) ?_
                    refine lv_astore (i := 4) (lv' := [(4, .ref q9), (14, .int 1), (13, .int 1), (3, .int y4.1), (2, .int y1.2.1), (0, rf h0), (1, .int x1)]) S.1 S.2.1 dL_act_579 hl (by decide) (by simp [rf_cat, int_cat]) (fun ls hl => ?_)
                    exact wbL_act_581 E0 h0 x1 y1.2.1 y4.1 _ hr9 _ _ _ hR9 hS (lv_sub hl [5, 6, 4, 3] rfl)
              · have hf := it_t hf c119
                refine lv_iconst (v := 1) S.1 S.2.1 dL_act_523 (by decide) ?_
                refine lv_goto (tgt := 528) S.1 S.2.1 dL_act_524 (by decide) ?_
                refine lv_icmp_ne (tgt := 550) S.1 S.2.1 dL_act_528 (by decide) (fun c128 => ?_) (fun c128 => ?_)
                · have hf := it_f hf c128
                  refine lv_iconst (v := 0) S.1 S.2.1 dL_act_550 (by decide) ?_
                  obtain rfl := Option.some.inj hf
                  refine W.mono9 (MQ.mono9 (fun oc t h => ⟨_, Or.inl rfl, h⟩)) ?_
                  refine W.widen (k := 1) (n := 6) (Nat.le_of_ble_eq_true rfl) (Nat.le_of_ble_eq_true rfl) ?_
                  exact mm_zret S hR hS hr hlocks (Or.inl rfl) dL_act_551
                · have hf := it_t hf c128
                  refine lv_iload S.1 S.2.1 dL_act_531 (lv_at hl 1 rfl) ?_
                  refine lv_if_ne (tgt := 546) S.1 S.2.1 dL_act_533 (by decide) (fun c129 => ?_) (fun c129 => ?_)
                  · have hf := it_f hf c129
                    refine lv_iconst (v := 1) S.1 S.2.1 dL_act_546 (by decide) ?_
                    refine lv_goto (tgt := 551) S.1 S.2.1 dL_act_547 (by decide) ?_
                    obtain rfl := Option.some.inj hf
                    refine W.mono9 (MQ.mono9 (fun oc t h => ⟨_, Or.inl rfl, h⟩)) ?_
                    refine W.widen (k := 1) (n := 6) (Nat.le_of_ble_eq_true rfl) (Nat.le_of_ble_eq_true rfl) ?_
                    exact mm_zret S hR hS hr hlocks (Or.inr rfl) dL_act_551
                  · have hf := it_t hf c129
                    refine mm_aload_n S dL_act_536 rfl (lv_at hl 4 rfl) ?_
                    refine lv_iload_n S.1 S.2.1 dL_act_537 rfl (lv_at hl 2 rfl) ?_
                    refine lv_iconst (v := 4) S.1 S.2.1 dL_act_538 (by decide) ?_
                    obtain ⟨y130, hy130, hf⟩ := bd hf
                    rcases it_or hf with ⟨c132, hf⟩ | ⟨c132, hf⟩
                    · refine mm_callVi S hR hS hA (As := [.int y4.1, .int 4]) (rest := []) cvL_68 (hK.k g3) (kX6_ofTask_c l G A (hK.k g3) hy130 c132) rfl rfl ⟨Nat.le_of_ble_eq_true rfl, Nat.le_of_ble_eq_true rfl⟩ rfl hl.1 rfl (lv_room (by simp [rf_cat, int_cat, long_cat])) dL_act_539 ⟨Nat.zero_le _, Nat.zero_le _⟩ (fun H locs hR hS => ?_)
                      have hK : mmKN μ y130.2.2 := hK.tr (kX6_ofTask_kn hy130)
                      refine lv_iconst (v := 1) S.1 S.2.1 dL_act_542 (by decide) ?_
                      refine lv_icmp_ne (tgt := 550) S.1 S.2.1 dL_act_543 (by decide) (fun c131 => ?_) (fun c131 => ?_)
                      · have hf := it_f hf c131
                        refine lv_iconst (v := 0) S.1 S.2.1 dL_act_550 (by decide) ?_
                        obtain rfl := Option.some.inj hf
                        refine W.mono9 (MQ.mono9 (fun oc t h => ⟨_, Or.inl rfl, h⟩)) ?_
                        refine W.widen (k := 1) (n := 6) (Nat.le_of_ble_eq_true rfl) (Nat.le_of_ble_eq_true rfl) ?_
                        exact mm_zret S hR hS hr hlocks (Or.inl rfl) dL_act_551
                      · have hf := it_t hf c131
                        refine lv_iconst (v := 1) S.1 S.2.1 dL_act_546 (by decide) ?_
                        refine lv_goto (tgt := 551) S.1 S.2.1 dL_act_547 (by decide) ?_
                        obtain rfl := Option.some.inj hf
                        refine W.mono9 (MQ.mono9 (fun oc t h => ⟨_, Or.inl rfl, h⟩)) ?_
                        refine W.widen (k := 1) (n := 6) (Nat.le_of_ble_eq_true rfl) (Nat.le_of_ble_eq_true rfl) ?_
                        exact mm_zret S hR hS hr hlocks (Or.inr rfl) dL_act_551
                    rcases it_or hf with ⟨c133, hf⟩ | ⟨c133, hf⟩
                    · skip
                      obtain rfl := Option.some.inj hf
                      have hnx : ¬ y130.1 = 0 := c132
                      have hM9 := kX6_ofTask_x l hl0 G A (hK.k g3) hy130 hnx
                      rw [show exn y130.1 = "java/lang/IndexOutOfBoundsException" from by rw [c133]; decide +kernel] at hM9
                      refine mm_catchV S hR hS hA hX (As := [.int y4.1, .int 4]) (rest := []) cvL_68 (hK.k g3) hM9 rfl rfl ⟨Nat.le_of_ble_eq_true rfl, Nat.le_of_ble_eq_true rfl⟩ rfl hl.1 rfl (lv_room (by simp [rf_cat, int_cat, long_cat])) dL_act_539 ⟨Nat.le_of_ble_eq_true rfl, Nat.le_of_ble_eq_true rfl⟩ (tableOf (hhAct.take 7)) ⟨474, 551, 552, 100⟩ (tableOf (hhAct.drop 8)) (by rw [htab]; rfl) (fun z hz => Or.inl ((by decide : ∀ z ∈ (tableOf (hhAct.take 7)), covers z 539 = false) z hz)) rfl (by decide) wlI wcI (fun q9 H9 locs hR9 hS hz9 => ?_)
                      have hK9 : mmKN μ y130.2.2 := hK.tr (kX6_ofTask_kn hy130)
                      obtain ⟨r9, hr9⟩ := hz _ rfl (H9.size + 1) (by have h1 := hR.1.2; rw [hK.2.2] at h1; omega)
                      refine W.mono9 (MQ.mono9 (fun oc t h => ⟨r9, Or.inr ⟨_, _, rfl, by have h1 := hR.1.2; rw [hK.2.2] at h1; omega, hr9⟩, h⟩)) ?_
                      refine lv_astore (i := 4) (lv' := [(4, .ref q9), (14, .int 1), (13, .int 1), (3, .int y4.1), (2, .int y1.2.1), (0, rf h0), (1, .int x1)]) S.1 S.2.1 dL_act_552 hl (by decide) (by simp [rf_cat, int_cat]) (fun ls hl => ?_)
                      exact wbL_act_554 E0 h0 x1 y1.2.1 _ hr9 _ _ _ hR9 hS (lv_sub hl [5, 6, 4] rfl)
                    obtain ⟨c134, hf⟩ := gd hf
                    obtain rfl := Option.some.inj hf
                    have hnx : ¬ y130.1 = 0 := c132
                    have hM9 := kX6_ofTask_x l hl0 G A (hK.k g3) hy130 hnx
                    rw [show exn y130.1 = "java/lang/IllegalStateException" from by rw [c134]; decide +kernel] at hM9
                    refine mm_catchV S hR hS hA hX (As := [.int y4.1, .int 4]) (rest := []) cvL_68 (hK.k g3) hM9 rfl rfl ⟨Nat.le_of_ble_eq_true rfl, Nat.le_of_ble_eq_true rfl⟩ rfl hl.1 rfl (lv_room (by simp [rf_cat, int_cat, long_cat])) dL_act_539 ⟨Nat.le_of_ble_eq_true rfl, Nat.le_of_ble_eq_true rfl⟩ (tableOf (hhAct.take 15)) ⟨474, 551, 579, 102⟩ (tableOf (hhAct.drop 16)) (by rw [htab]; rfl) (act_pass S hN (by decide)) rfl (by decide) wlS wcS (fun q9 H9 locs hR9 hS hz9 => ?_)
                    have hK9 : mmKN μ y130.2.2 := hK.tr (kX6_ofTask_kn hy130)
                    obtain ⟨r9, hr9⟩ := hz _ rfl (H9.size + 1) (by have h1 := hR.1.2; rw [hK.2.2] at h1; omega)
                    refine W.mono9 (MQ.mono9 (fun oc t h => ⟨r9, Or.inr ⟨_, _, rfl, by have h1 := hR.1.2; rw [hK.2.2] at h1; omega, hr9⟩, h⟩)) ?_
                    refine lv_astore (i := 4) (lv' := [(4, .ref q9), (14, .int 1), (13, .int 1), (3, .int y4.1), (2, .int y1.2.1), (0, rf h0), (1, .int x1)]) S.1 S.2.1 dL_act_579 hl (by decide) (by simp [rf_cat, int_cat]) (fun ls hl => ?_)
                    exact wbL_act_581 E0 h0 x1 y1.2.1 y4.1 _ hr9 _ _ _ hR9 hS (lv_sub hl [5, 6, 4, 3] rfl)
          rcases it_or hf with ⟨c137, hf⟩ | ⟨c137, hf⟩
          · skip
            obtain rfl := Option.some.inj hf
            have hnx : ¬ y109.1 = 0 := c136
            have hM9 := kX6_cancel_x l hl0 G A (hK.k g3) hy109 hnx
            rw [show exn y109.1 = "java/lang/IndexOutOfBoundsException" from by rw [c137]; decide +kernel] at hM9
            refine mm_catchV S hR hS hA hX (As := [.int y4.1]) (rest := []) cvL_96 (hK.k g3) hM9 rfl rfl ⟨Nat.le_of_ble_eq_true rfl, Nat.le_of_ble_eq_true rfl⟩ rfl hl.1 rfl (lv_room (by simp [rf_cat, int_cat, long_cat])) dL_act_510 ⟨Nat.le_of_ble_eq_true rfl, Nat.le_of_ble_eq_true rfl⟩ (tableOf (hhAct.take 7)) ⟨474, 551, 552, 100⟩ (tableOf (hhAct.drop 8)) (by rw [htab]; rfl) (fun z hz => Or.inl ((by decide : ∀ z ∈ (tableOf (hhAct.take 7)), covers z 510 = false) z hz)) rfl (by decide) wlI wcI (fun q9 H9 locs hR9 hS hz9 => ?_)
            have hK9 : mmKN μ y109.2.2 := hK.tr (kX6_cancel_kn hy109)
            obtain ⟨r9, hr9⟩ := hz _ rfl (H9.size + 1) (by have h1 := hR.1.2; rw [hK.2.2] at h1; omega)
            refine W.mono9 (MQ.mono9 (fun oc t h => ⟨r9, Or.inr ⟨_, _, rfl, by have h1 := hR.1.2; rw [hK.2.2] at h1; omega, hr9⟩, h⟩)) ?_
            refine lv_astore (i := 4) (lv' := [(4, .ref q9), (14, .int 1), (13, .int 1), (3, .int y4.1), (2, .int y1.2.1), (0, rf h0), (1, .int x1)]) S.1 S.2.1 dL_act_552 hl (by decide) (by simp [rf_cat, int_cat]) (fun ls hl => ?_)
            exact wbL_act_554 E0 h0 x1 y1.2.1 _ hr9 _ _ _ hR9 hS (lv_sub hl [5, 6, 4] rfl)
          obtain ⟨c138, hf⟩ := gd hf
          obtain rfl := Option.some.inj hf
          have hnx : ¬ y109.1 = 0 := c136
          have hM9 := kX6_cancel_x l hl0 G A (hK.k g3) hy109 hnx
          rw [show exn y109.1 = "java/lang/IllegalStateException" from by rw [c138]; decide +kernel] at hM9
          refine mm_catchV S hR hS hA hX (As := [.int y4.1]) (rest := []) cvL_96 (hK.k g3) hM9 rfl rfl ⟨Nat.le_of_ble_eq_true rfl, Nat.le_of_ble_eq_true rfl⟩ rfl hl.1 rfl (lv_room (by simp [rf_cat, int_cat, long_cat])) dL_act_510 ⟨Nat.le_of_ble_eq_true rfl, Nat.le_of_ble_eq_true rfl⟩ (tableOf (hhAct.take 15)) ⟨474, 551, 579, 102⟩ (tableOf (hhAct.drop 16)) (by rw [htab]; rfl) (act_pass S hN (by decide)) rfl (by decide) wlS wcS (fun q9 H9 locs hR9 hS hz9 => ?_)
          have hK9 : mmKN μ y109.2.2 := hK.tr (kX6_cancel_kn hy109)
          obtain ⟨r9, hr9⟩ := hz _ rfl (H9.size + 1) (by have h1 := hR.1.2; rw [hK.2.2] at h1; omega)
          refine W.mono9 (MQ.mono9 (fun oc t h => ⟨r9, Or.inr ⟨_, _, rfl, by have h1 := hR.1.2; rw [hK.2.2] at h1; omega, hr9⟩, h⟩)) ?_
          refine lv_astore (i := 4) (lv' := [(4, .ref q9), (14, .int 1), (13, .int 1), (3, .int y4.1), (2, .int y1.2.1), (0, rf h0), (1, .int x1)]) S.1 S.2.1 dL_act_579 hl (by decide) (by simp [rf_cat, int_cat]) (fun ls hl => ?_)
          exact wbL_act_581 E0 h0 x1 y1.2.1 y4.1 _ hr9 _ _ _ hR9 hS (lv_sub hl [5, 6, 4, 3] rfl)
      rcases it_or hf with ⟨c141, hf⟩ | ⟨c141, hf⟩
      · skip
        obtain rfl := Option.some.inj hf
        have hnx : ¬ y76.1 = 0 := c140
        have hM9 := kX6_ofTask_x l hl0 G A (hK.k g3) hy76 hnx
        rw [show exn y76.1 = "java/lang/IndexOutOfBoundsException" from by rw [c141]; decide +kernel] at hM9
        refine mm_catchV S hR hS hA hX (As := [.int y4.1, .int 4]) (rest := []) cvL_68 (hK.k g3) hM9 rfl rfl ⟨Nat.le_of_ble_eq_true rfl, Nat.le_of_ble_eq_true rfl⟩ rfl hl.1 rfl (lv_room (by simp [rf_cat, int_cat, long_cat])) dL_act_494 ⟨Nat.le_of_ble_eq_true rfl, Nat.le_of_ble_eq_true rfl⟩ (tableOf (hhAct.take 7)) ⟨474, 551, 552, 100⟩ (tableOf (hhAct.drop 8)) (by rw [htab]; rfl) (fun z hz => Or.inl ((by decide : ∀ z ∈ (tableOf (hhAct.take 7)), covers z 494 = false) z hz)) rfl (by decide) wlI wcI (fun q9 H9 locs hR9 hS hz9 => ?_)
        have hK9 : mmKN μ y76.2.2 := hK.tr (kX6_ofTask_kn hy76)
        obtain ⟨r9, hr9⟩ := hz _ rfl (H9.size + 1) (by have h1 := hR.1.2; rw [hK.2.2] at h1; omega)
        refine W.mono9 (MQ.mono9 (fun oc t h => ⟨r9, Or.inr ⟨_, _, rfl, by have h1 := hR.1.2; rw [hK.2.2] at h1; omega, hr9⟩, h⟩)) ?_
        refine lv_astore (i := 4) (lv' := [(4, .ref q9), (13, .int 1), (3, .int y4.1), (2, .int y1.2.1), (0, rf h0), (1, .int x1)]) S.1 S.2.1 dL_act_552 hl (by decide) (by simp [rf_cat, int_cat]) (fun ls hl => ?_)
        exact wbL_act_554 E0 h0 x1 y1.2.1 _ hr9 _ _ _ hR9 hS (lv_sub hl [4, 5, 3] rfl)
      obtain ⟨c142, hf⟩ := gd hf
      obtain rfl := Option.some.inj hf
      have hnx : ¬ y76.1 = 0 := c140
      have hM9 := kX6_ofTask_x l hl0 G A (hK.k g3) hy76 hnx
      rw [show exn y76.1 = "java/lang/IllegalStateException" from by rw [c142]; decide +kernel] at hM9
      refine mm_catchV S hR hS hA hX (As := [.int y4.1, .int 4]) (rest := []) cvL_68 (hK.k g3) hM9 rfl rfl ⟨Nat.le_of_ble_eq_true rfl, Nat.le_of_ble_eq_true rfl⟩ rfl hl.1 rfl (lv_room (by simp [rf_cat, int_cat, long_cat])) dL_act_494 ⟨Nat.le_of_ble_eq_true rfl, Nat.le_of_ble_eq_true rfl⟩ (tableOf (hhAct.take 15)) ⟨474, 551, 579, 102⟩ (tableOf (hhAct.drop 16)) (by rw [htab]; rfl) (act_pass S hN (by decide)) rfl (by decide) wlS wcS (fun q9 H9 locs hR9 hS hz9 => ?_)
      have hK9 : mmKN μ y76.2.2 := hK.tr (kX6_ofTask_kn hy76)
      obtain ⟨r9, hr9⟩ := hz _ rfl (H9.size + 1) (by have h1 := hR.1.2; rw [hK.2.2] at h1; omega)
      refine W.mono9 (MQ.mono9 (fun oc t h => ⟨r9, Or.inr ⟨_, _, rfl, by have h1 := hR.1.2; rw [hK.2.2] at h1; omega, hr9⟩, h⟩)) ?_
      refine lv_astore (i := 4) (lv' := [(4, .ref q9), (13, .int 1), (3, .int y4.1), (2, .int y1.2.1), (0, rf h0), (1, .int x1)]) S.1 S.2.1 dL_act_579 hl (by decide) (by simp [rf_cat, int_cat]) (fun ls hl => ?_)
      exact wbL_act_581 E0 h0 x1 y1.2.1 y4.1 _ hr9 _ _ _ hR9 hS (lv_sub hl [4, 5, 3, 2] rfl)
  rcases it_or hf with ⟨c145, hf⟩ | ⟨c145, hf⟩
  · skip
    obtain rfl := Option.some.inj hf
    have hnx : ¬ y6.1 = 0 := c144
    have hM9 := kX6_of_x l hl0 G A (hK.k g3) hy6 hnx
    rw [show exn y6.1 = "java/lang/IndexOutOfBoundsException" from by rw [c145]; decide +kernel] at hM9
    refine mm_catchV S hR hS hA hX (As := [.int y4.1, .int 1]) (rest := []) cvL_43 (hK.k g3) hM9 rfl rfl ⟨Nat.le_of_ble_eq_true rfl, Nat.le_of_ble_eq_true rfl⟩ rfl hl.1 rfl (lv_room (by simp [rf_cat, int_cat, long_cat])) dL_act_477 ⟨Nat.le_of_ble_eq_true rfl, Nat.le_of_ble_eq_true rfl⟩ (tableOf (hhAct.take 7)) ⟨474, 551, 552, 100⟩ (tableOf (hhAct.drop 8)) (by rw [htab]; rfl) (fun z hz => Or.inl ((by decide : ∀ z ∈ (tableOf (hhAct.take 7)), covers z 477 = false) z hz)) rfl (by decide) wlI wcI (fun q9 H9 locs hR9 hS hz9 => ?_)
    have hK9 : mmKN μ y6.2.2 := hK.tr (kX6_of_kn hy6)
    obtain ⟨r9, hr9⟩ := hz _ rfl (H9.size + 1) (by have h1 := hR.1.2; rw [hK.2.2] at h1; omega)
    refine W.mono9 (MQ.mono9 (fun oc t h => ⟨r9, Or.inr ⟨_, _, rfl, by have h1 := hR.1.2; rw [hK.2.2] at h1; omega, hr9⟩, h⟩)) ?_
    refine lv_astore (i := 4) (lv' := [(4, .ref q9), (3, .int y4.1), (2, .int y1.2.1), (0, rf h0), (1, .int x1)]) S.1 S.2.1 dL_act_552 hl (by decide) (by simp [rf_cat, int_cat]) (fun ls hl => ?_)
    exact wbL_act_554 E0 h0 x1 y1.2.1 _ hr9 _ _ _ hR9 hS (lv_sub hl [3, 4, 2] rfl)
  obtain ⟨c146, hf⟩ := gd hf
  obtain rfl := Option.some.inj hf
  have hnx : ¬ y6.1 = 0 := c144
  have hM9 := kX6_of_x l hl0 G A (hK.k g3) hy6 hnx
  rw [show exn y6.1 = "java/lang/IllegalStateException" from by rw [c146]; decide +kernel] at hM9
  refine mm_catchV S hR hS hA hX (As := [.int y4.1, .int 1]) (rest := []) cvL_43 (hK.k g3) hM9 rfl rfl ⟨Nat.le_of_ble_eq_true rfl, Nat.le_of_ble_eq_true rfl⟩ rfl hl.1 rfl (lv_room (by simp [rf_cat, int_cat, long_cat])) dL_act_477 ⟨Nat.le_of_ble_eq_true rfl, Nat.le_of_ble_eq_true rfl⟩ (tableOf (hhAct.take 15)) ⟨474, 551, 579, 102⟩ (tableOf (hhAct.drop 16)) (by rw [htab]; rfl) (act_pass S hN (by decide)) rfl (by decide) wlS wcS (fun q9 H9 locs hR9 hS hz9 => ?_)
  have hK9 : mmKN μ y6.2.2 := hK.tr (kX6_of_kn hy6)
  obtain ⟨r9, hr9⟩ := hz _ rfl (H9.size + 1) (by have h1 := hR.1.2; rw [hK.2.2] at h1; omega)
  refine W.mono9 (MQ.mono9 (fun oc t h => ⟨r9, Or.inr ⟨_, _, rfl, by have h1 := hR.1.2; rw [hK.2.2] at h1; omega, hr9⟩, h⟩)) ?_
  refine lv_astore (i := 4) (lv' := [(4, .ref q9), (3, .int y4.1), (2, .int y1.2.1), (0, rf h0), (1, .int x1)]) S.1 S.2.1 dL_act_579 hl (by decide) (by simp [rf_cat, int_cat]) (fun ls hl => ?_)
  exact wbL_act_581 E0 h0 x1 y1.2.1 y4.1 _ hr9 _ _ _ hR9 hS (lv_sub hl [3, 4, 2, 1] rfl)
