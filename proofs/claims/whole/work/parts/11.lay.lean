/-! the world of one ClueRoom, one ClueRoomModel and the law's long[1], by program: cell by cell in the order of their making -/
section LayA
def LAY : List xLay := [.inr (11, [some (some 1), none, none, some (some 2), none, some (some 3), some (some 19), some (some 26), some (some 40), some (some 46), some (some 58), some (some 64), some (some 67)]), .inl (0, 180), .inl (0, 36), .inr (3, [some (some 4), some (some 7), some (some 10), some (some 13), some (some 14), some (some 15), some (some 16), some (some 17), some (some 18)]), .inr (4, [some (some 5), some (some 6), none]), .inl (0, 120), .inl (0, 120), .inr (4, [some (some 8), some (some 9), none]), .inl (0, 240), .inl (0, 240), .inr (4, [some (some 11), some (some 12), none]), .inl (0, 120), .inl (0, 120), .inl (0, 1200), .inl (0, 120), .inl (0, 1320), .inl (0, 240), .inl (0, 240), .inl (0, 1200), .inr (0, [some (some 20), some (some 23), some (some 24), some (some 25), none]), .inr (4, [some (some 21), some (some 22), none]), .inl (0, 60), .inl (0, 60), .inl (0, 480), .inl (0, 60), .inl (0, 16), .inr (8, [some (some 33), some (some 27)]), .inr (5, [some (some 28), some (some 29), some (some 30), some (some 31), some (some 32), none, none, none, none]), .inl (0, 7922), .inl (0, 7922), .inl (0, 7922), .inl (3, 23766), .inl (3, 3), .inr (9, [some (some 3), some (some 34), some (some 35), some (some 36), some (some 37), none, none, some (some 38), none, some (some 39), none]), .inl (0, 8), .inl (0, 8), .inl (0, 80), .inl (0, 9), .inl (0, 20), .inl (0, 10), .inr (6, [some (some 3), some (some 19), some (some 26), some (some 41), some (some 42), some (some 43), some (some 44), some (some 45)]), .inl (0, 1920), .inl (0, 16), .inl (0, 16), .inl (0, 16), .inl (0, 16), .inr (2, [some (some 47), some (some 48), some (some 49), some (some 50), some (some 51), some (some 52), some (some 53), some (some 54), some (some 57), none, none]), .inl (0, 16), .inl (0, 16), .inl (0, 16), .inl (0, 81), .inl (0, 81), .inl (0, 81), .inl (0, 256), .inr (4, [some (some 55), some (some 56), none]), .inl (0, 60), .inl (0, 60), .inl (0, 60), .inr (10, [some (some 3), some (some 40), some (some 46), some (some 59), some (some 60), some (some 61), some (some 62), some (some 63), none, none]), .inl (0, 1920), .inl (0, 16), .inl (0, 16), .inl (0, 16), .inl (0, 16), .inr (1, [some (some 3), some (some 40), some (some 46), some (some 65), some (some 66), none]), .inl (0, 80), .inl (0, 80), .inr (7, [some (some 3), some (some 40), some (some 46), some (some 68), some (some 71), some (some 72), some (some 73)]), .inr (4, [some (some 69), some (some 70), none]), .inl (0, 30), .inl (0, 30), .inl (0, 4800), .inl (0, 30), .inl (0, 16), .inr (12, [none, some (some 75), none, none, none, none, some (some 76), some (some 77), some (some 78), some (some 79), some (some 80), some (some 81), some (some 82), some (some 83), some (some 84), some (some 85), some (some 86), some (some 87), some (some 88), some (some 89), none, none, none, none, some (some 90), some (some 91), none, none, some (some 92), some (some 93), some (some 94), some (some 95), some (some 96), some (some 97), some (some 98), some (some 99), some (some 100), some (some 101), some (some 102), some (some 103), some (some 104), none, none, none, none, none, none, none, none, none, some (some 105), some (some 106), none, some (some 107), none, some (some 108), none, some (some 109), some (some 110), some (some 111), some (some 112), some (some 113), some (some 114), some (some 115), some (some 116), some (some 117), some (some 118), none, some (some 119), some (some 120), some (some 121), some (some 122), none, some (some 123), some (some 124), some (some 125), none, some (some 126), some (some 127), some (some 128), some (some 129), none]), .inl (1, 180), .inl (1, 1200), .inl (0, 120), .inl (0, 120), .inl (0, 240), .inl (0, 240), .inl (0, 240), .inl (0, 120), .inl (0, 120), .inl (0, 120), .inl (0, 60), .inl (0, 60), .inl (0, 60), .inl (0, 480), .inl (0, 16), .inl (0, 120), .inl (2, 14400), .inl (0, 3960), .inl (0, 3960), .inl (0, 3960), .inl (0, 3960), .inl (0, 3960), .inl (0, 3960), .inl (1, 158400), .inl (1, 158400), .inl (0, 8), .inl (0, 10), .inl (0, 10), .inl (0, 10), .inl (0, 80), .inl (1, 40), .inl (1, 80), .inl (1, 40), .inl (2, 1920), .inl (0, 16), .inl (0, 16), .inl (0, 81), .inl (0, 81), .inl (0, 81), .inl (0, 60), .inl (0, 60), .inl (0, 60), .inl (2, 16), .inl (2, 16), .inl (2, 1920), .inl (0, 16), .inl (0, 16), .inl (0, 16), .inl (0, 16), .inl (0, 80), .inl (0, 80), .inl (1, 4800), .inl (0, 30), .inl (0, 30), .inl (0, 81), .inl (3, 1)]
theorem L_0 : LAY[0]? = some (.inr (11, [some (some 1), none, none, some (some 2), none, some (some 3), some (some 19), some (some 26), some (some 40), some (some 46), some (some 58), some (some 64), some (some 67)])) := rfl
theorem L_1 : LAY[1]? = some (.inl (0, 180)) := rfl
theorem L_2 : LAY[2]? = some (.inl (0, 36)) := rfl
theorem L_3 : LAY[3]? = some (.inr (3, [some (some 4), some (some 7), some (some 10), some (some 13), some (some 14), some (some 15), some (some 16), some (some 17), some (some 18)])) := rfl
theorem L_4 : LAY[4]? = some (.inr (4, [some (some 5), some (some 6), none])) := rfl
theorem L_5 : LAY[5]? = some (.inl (0, 120)) := rfl
theorem L_6 : LAY[6]? = some (.inl (0, 120)) := rfl
theorem L_7 : LAY[7]? = some (.inr (4, [some (some 8), some (some 9), none])) := rfl
theorem L_8 : LAY[8]? = some (.inl (0, 240)) := rfl
theorem L_9 : LAY[9]? = some (.inl (0, 240)) := rfl
theorem L_10 : LAY[10]? = some (.inr (4, [some (some 11), some (some 12), none])) := rfl
theorem L_11 : LAY[11]? = some (.inl (0, 120)) := rfl
theorem L_12 : LAY[12]? = some (.inl (0, 120)) := rfl
theorem L_13 : LAY[13]? = some (.inl (0, 1200)) := rfl
theorem L_14 : LAY[14]? = some (.inl (0, 120)) := rfl
theorem L_15 : LAY[15]? = some (.inl (0, 1320)) := rfl
theorem L_16 : LAY[16]? = some (.inl (0, 240)) := rfl
theorem L_17 : LAY[17]? = some (.inl (0, 240)) := rfl
theorem L_18 : LAY[18]? = some (.inl (0, 1200)) := rfl
theorem L_19 : LAY[19]? = some (.inr (0, [some (some 20), some (some 23), some (some 24), some (some 25), none])) := rfl
theorem L_20 : LAY[20]? = some (.inr (4, [some (some 21), some (some 22), none])) := rfl
theorem L_21 : LAY[21]? = some (.inl (0, 60)) := rfl
theorem L_22 : LAY[22]? = some (.inl (0, 60)) := rfl
theorem L_23 : LAY[23]? = some (.inl (0, 480)) := rfl
theorem L_24 : LAY[24]? = some (.inl (0, 60)) := rfl
theorem L_25 : LAY[25]? = some (.inl (0, 16)) := rfl
theorem L_26 : LAY[26]? = some (.inr (8, [some (some 33), some (some 27)])) := rfl
theorem L_27 : LAY[27]? = some (.inr (5, [some (some 28), some (some 29), some (some 30), some (some 31), some (some 32), none, none, none, none])) := rfl
theorem L_28 : LAY[28]? = some (.inl (0, 7922)) := rfl
theorem L_29 : LAY[29]? = some (.inl (0, 7922)) := rfl
theorem L_30 : LAY[30]? = some (.inl (0, 7922)) := rfl
theorem L_31 : LAY[31]? = some (.inl (3, 23766)) := rfl
theorem L_32 : LAY[32]? = some (.inl (3, 3)) := rfl
theorem L_33 : LAY[33]? = some (.inr (9, [some (some 3), some (some 34), some (some 35), some (some 36), some (some 37), none, none, some (some 38), none, some (some 39), none])) := rfl
theorem L_34 : LAY[34]? = some (.inl (0, 8)) := rfl
theorem L_35 : LAY[35]? = some (.inl (0, 8)) := rfl
theorem L_36 : LAY[36]? = some (.inl (0, 80)) := rfl
theorem L_37 : LAY[37]? = some (.inl (0, 9)) := rfl
theorem L_38 : LAY[38]? = some (.inl (0, 20)) := rfl
theorem L_39 : LAY[39]? = some (.inl (0, 10)) := rfl
theorem L_40 : LAY[40]? = some (.inr (6, [some (some 3), some (some 19), some (some 26), some (some 41), some (some 42), some (some 43), some (some 44), some (some 45)])) := rfl
theorem L_41 : LAY[41]? = some (.inl (0, 1920)) := rfl
theorem L_42 : LAY[42]? = some (.inl (0, 16)) := rfl
theorem L_43 : LAY[43]? = some (.inl (0, 16)) := rfl
theorem L_44 : LAY[44]? = some (.inl (0, 16)) := rfl
theorem L_45 : LAY[45]? = some (.inl (0, 16)) := rfl
theorem L_46 : LAY[46]? = some (.inr (2, [some (some 47), some (some 48), some (some 49), some (some 50), some (some 51), some (some 52), some (some 53), some (some 54), some (some 57), none, none])) := rfl
theorem L_47 : LAY[47]? = some (.inl (0, 16)) := rfl
theorem L_48 : LAY[48]? = some (.inl (0, 16)) := rfl
theorem L_49 : LAY[49]? = some (.inl (0, 16)) := rfl
theorem L_50 : LAY[50]? = some (.inl (0, 81)) := rfl
theorem L_51 : LAY[51]? = some (.inl (0, 81)) := rfl
theorem L_52 : LAY[52]? = some (.inl (0, 81)) := rfl
theorem L_53 : LAY[53]? = some (.inl (0, 256)) := rfl
theorem L_54 : LAY[54]? = some (.inr (4, [some (some 55), some (some 56), none])) := rfl
theorem L_55 : LAY[55]? = some (.inl (0, 60)) := rfl
theorem L_56 : LAY[56]? = some (.inl (0, 60)) := rfl
theorem L_57 : LAY[57]? = some (.inl (0, 60)) := rfl
theorem L_58 : LAY[58]? = some (.inr (10, [some (some 3), some (some 40), some (some 46), some (some 59), some (some 60), some (some 61), some (some 62), some (some 63), none, none])) := rfl
theorem L_59 : LAY[59]? = some (.inl (0, 1920)) := rfl
theorem L_60 : LAY[60]? = some (.inl (0, 16)) := rfl
theorem L_61 : LAY[61]? = some (.inl (0, 16)) := rfl
theorem L_62 : LAY[62]? = some (.inl (0, 16)) := rfl
theorem L_63 : LAY[63]? = some (.inl (0, 16)) := rfl
theorem L_64 : LAY[64]? = some (.inr (1, [some (some 3), some (some 40), some (some 46), some (some 65), some (some 66), none])) := rfl
theorem L_65 : LAY[65]? = some (.inl (0, 80)) := rfl
theorem L_66 : LAY[66]? = some (.inl (0, 80)) := rfl
theorem L_67 : LAY[67]? = some (.inr (7, [some (some 3), some (some 40), some (some 46), some (some 68), some (some 71), some (some 72), some (some 73)])) := rfl
theorem L_68 : LAY[68]? = some (.inr (4, [some (some 69), some (some 70), none])) := rfl
theorem L_69 : LAY[69]? = some (.inl (0, 30)) := rfl
theorem L_70 : LAY[70]? = some (.inl (0, 30)) := rfl
theorem L_71 : LAY[71]? = some (.inl (0, 4800)) := rfl
theorem L_72 : LAY[72]? = some (.inl (0, 30)) := rfl
theorem L_73 : LAY[73]? = some (.inl (0, 16)) := rfl
theorem L_74 : LAY[74]? = some (.inr (12, [none, some (some 75), none, none, none, none, some (some 76), some (some 77), some (some 78), some (some 79), some (some 80), some (some 81), some (some 82), some (some 83), some (some 84), some (some 85), some (some 86), some (some 87), some (some 88), some (some 89), none, none, none, none, some (some 90), some (some 91), none, none, some (some 92), some (some 93), some (some 94), some (some 95), some (some 96), some (some 97), some (some 98), some (some 99), some (some 100), some (some 101), some (some 102), some (some 103), some (some 104), none, none, none, none, none, none, none, none, none, some (some 105), some (some 106), none, some (some 107), none, some (some 108), none, some (some 109), some (some 110), some (some 111), some (some 112), some (some 113), some (some 114), some (some 115), some (some 116), some (some 117), some (some 118), none, some (some 119), some (some 120), some (some 121), some (some 122), none, some (some 123), some (some 124), some (some 125), none, some (some 126), some (some 127), some (some 128), some (some 129), none])) := rfl
theorem L_75 : LAY[75]? = some (.inl (1, 180)) := rfl
theorem L_76 : LAY[76]? = some (.inl (1, 1200)) := rfl
theorem L_77 : LAY[77]? = some (.inl (0, 120)) := rfl
theorem L_78 : LAY[78]? = some (.inl (0, 120)) := rfl
theorem L_79 : LAY[79]? = some (.inl (0, 240)) := rfl
theorem L_80 : LAY[80]? = some (.inl (0, 240)) := rfl
theorem L_81 : LAY[81]? = some (.inl (0, 240)) := rfl
theorem L_82 : LAY[82]? = some (.inl (0, 120)) := rfl
theorem L_83 : LAY[83]? = some (.inl (0, 120)) := rfl
theorem L_84 : LAY[84]? = some (.inl (0, 120)) := rfl
theorem L_85 : LAY[85]? = some (.inl (0, 60)) := rfl
theorem L_86 : LAY[86]? = some (.inl (0, 60)) := rfl
theorem L_87 : LAY[87]? = some (.inl (0, 60)) := rfl
theorem L_88 : LAY[88]? = some (.inl (0, 480)) := rfl
theorem L_89 : LAY[89]? = some (.inl (0, 16)) := rfl
theorem L_90 : LAY[90]? = some (.inl (0, 120)) := rfl
theorem L_91 : LAY[91]? = some (.inl (2, 14400)) := rfl
theorem L_92 : LAY[92]? = some (.inl (0, 3960)) := rfl
theorem L_93 : LAY[93]? = some (.inl (0, 3960)) := rfl
theorem L_94 : LAY[94]? = some (.inl (0, 3960)) := rfl
theorem L_95 : LAY[95]? = some (.inl (0, 3960)) := rfl
theorem L_96 : LAY[96]? = some (.inl (0, 3960)) := rfl
theorem L_97 : LAY[97]? = some (.inl (0, 3960)) := rfl
theorem L_98 : LAY[98]? = some (.inl (1, 158400)) := rfl
theorem L_99 : LAY[99]? = some (.inl (1, 158400)) := rfl
theorem L_100 : LAY[100]? = some (.inl (0, 8)) := rfl
theorem L_101 : LAY[101]? = some (.inl (0, 10)) := rfl
theorem L_102 : LAY[102]? = some (.inl (0, 10)) := rfl
theorem L_103 : LAY[103]? = some (.inl (0, 10)) := rfl
theorem L_104 : LAY[104]? = some (.inl (0, 80)) := rfl
theorem L_105 : LAY[105]? = some (.inl (1, 40)) := rfl
theorem L_106 : LAY[106]? = some (.inl (1, 80)) := rfl
theorem L_107 : LAY[107]? = some (.inl (1, 40)) := rfl
theorem L_108 : LAY[108]? = some (.inl (2, 1920)) := rfl
theorem L_109 : LAY[109]? = some (.inl (0, 16)) := rfl
theorem L_110 : LAY[110]? = some (.inl (0, 16)) := rfl
theorem L_111 : LAY[111]? = some (.inl (0, 81)) := rfl
theorem L_112 : LAY[112]? = some (.inl (0, 81)) := rfl
theorem L_113 : LAY[113]? = some (.inl (0, 81)) := rfl
theorem L_114 : LAY[114]? = some (.inl (0, 60)) := rfl
theorem L_115 : LAY[115]? = some (.inl (0, 60)) := rfl
theorem L_116 : LAY[116]? = some (.inl (0, 60)) := rfl
theorem L_117 : LAY[117]? = some (.inl (2, 16)) := rfl
theorem L_118 : LAY[118]? = some (.inl (2, 16)) := rfl
theorem L_119 : LAY[119]? = some (.inl (2, 1920)) := rfl
theorem L_120 : LAY[120]? = some (.inl (0, 16)) := rfl
theorem L_121 : LAY[121]? = some (.inl (0, 16)) := rfl
theorem L_122 : LAY[122]? = some (.inl (0, 16)) := rfl
theorem L_123 : LAY[123]? = some (.inl (0, 16)) := rfl
theorem L_124 : LAY[124]? = some (.inl (0, 80)) := rfl
theorem L_125 : LAY[125]? = some (.inl (0, 80)) := rfl
theorem L_126 : LAY[126]? = some (.inl (1, 4800)) := rfl
theorem L_127 : LAY[127]? = some (.inl (0, 30)) := rfl
theorem L_128 : LAY[128]? = some (.inl (0, 30)) := rfl
theorem L_129 : LAY[129]? = some (.inl (0, 81)) := rfl
theorem L_130 : LAY[130]? = some (.inl (3, 1)) := rfl
set_option maxRecDepth 4000 in
theorem LAY_len : LAY.length = 131 := rfl
def qI (P : Int → xMem → Prop) : Option Value → List xLay → xMem → Prop := fun r lay μ => lay = LAY ∧ ∃ x : Int, r = some (xi x) ∧ iR x ∧ P x μ
def qL (P : Int → xMem → Prop) : Option Value → List xLay → xMem → Prop := fun r lay μ => lay = LAY ∧ ∃ x : Int, r = some (xl x) ∧ lR x ∧ P x μ
def qV (P : xMem → Prop) : Option Value → List xLay → xMem → Prop := fun r lay μ => lay = LAY ∧ r = none ∧ P μ
def CI (G : xG) (l : Launch) (d : Nat) (mt : xMT) (args : List Value) (μ : xMem) (P : Int → xMem → Prop) : Prop := CC G l d 0 0 false mt args LAY μ (qI P)
def CL (G : xG) (l : Launch) (d : Nat) (mt : xMT) (args : List Value) (μ : xMem) (P : Int → xMem → Prop) : Prop := CC G l d 0 0 false mt args LAY μ (qL P)
def CV (G : xG) (l : Launch) (d : Nat) (mt : xMT) (args : List Value) (μ : xMem) (P : xMem → Prop) : Prop := CC G l d 0 0 false mt args LAY μ (qV P)
theorem CI.mono {G : xG} {l : Launch} {d : Nat} {mt : xMT} {args : List Value} {μ : xMem} {P P' : Int → xMem → Prop} (h : CI G l d mt args μ P) (hP : ∀ x μ', iR x → P x μ' → P' x μ') : CI G l d mt args μ P' := CC.mono h (fun _ _ _ ⟨h1, x, h2, h3, h4⟩ => ⟨h1, x, h2, h3, hP _ _ h3 h4⟩)
theorem CL.mono {G : xG} {l : Launch} {d : Nat} {mt : xMT} {args : List Value} {μ : xMem} {P P' : Int → xMem → Prop} (h : CL G l d mt args μ P) (hP : ∀ x μ', lR x → P x μ' → P' x μ') : CL G l d mt args μ P' := CC.mono h (fun _ _ _ ⟨h1, x, h2, h3, h4⟩ => ⟨h1, x, h2, h3, hP _ _ h3 h4⟩)
theorem CV.mono {G : xG} {l : Launch} {d : Nat} {mt : xMT} {args : List Value} {μ : xMem} {P P' : xMem → Prop} (h : CV G l d mt args μ P) (hP : ∀ μ', P μ' → P' μ') : CV G l d mt args μ P' := CC.mono h (fun _ _ _ ⟨h1, h2, h3⟩ => ⟨h1, h2, hP _ h3⟩)
end LayA
section LayB
variable {G : xG} {l : Launch} {d mc ms pc bc bs : Nat} {z : Bool} {mt : xMT} {Q : Option Value → List xLay → xMem → Prop} {ll ll' : xLL} {st : List Value} {lay : List xLay} {μ : xMem}
def subLL : xLL → xLL → Prop
  | [], _ => True
  | none :: r, q => subLL r q.tail
  | some v :: r, some w :: q => v = w ∧ subLL r q
  | some _ :: _, _ => False
theorem subLL_get : ∀ {a b : xLL} {i : Nat} {v : Value}, subLL a b → a[i]? = some (some v) → b[i]? = some (some v)
  | [], _, i, v, _, h => by simp at h
  | none :: r, q, 0, v, _, h => by simp at h
  | none :: r, q, i + 1, v, hs, h => by
    rw [List.getElem?_cons_succ] at h
    have h1 := subLL_get (a := r) (b := q.tail) hs h
    rw [List.getElem?_tail] at h1
    exact h1
  | some x :: r, some w :: q, 0, v, hs, h => by
    rw [← hs.1]
    exact h
  | some x :: r, some w :: q, i + 1, v, hs, h => by
    rw [List.getElem?_cons_succ] at h ⊢
    exact subLL_get (a := r) (b := q) hs.2 h
  | some x :: r, none :: q, i, v, hs, h => hs.elim
  | some x :: r, [], i, v, hs, h => hs.elim
theorem xr_wk (hw : subLL ll' ll) (k : RR G l d mc ms z mt Q pc ll' st lay μ bc bs) : RR G l d mc ms z mt Q pc ll st lay μ bc bs := by
  intro p e s m args below meth c hC H locs cells slots ls hz hP hS h1 h2 hl
  refine k p e s m args below meth c hC H locs cells slots ls hz hP hS h1 h2 ⟨hl.1, hl.2.1, fun q hq => hl.2.2 q ?_⟩
  obtain ⟨j, e1, e2⟩ := (mem_prs _ 0).mp hq
  exact (mem_prs _ 0).mpr ⟨j, e1, subLL_get hw e2⟩
theorem xr_istore_n' {n : Fin 4} {x : Int} (hd : decode mt.2.1 pc = .ok (.istore_n n, 1)) (hi : (n : Nat) < mt.2.2.1) (hk : x_chk ll n = true) (hs : ll.set n (some (xi x)) = ll') (k : RR G l d mc ms z mt Q (pc + 1) ll' st lay μ bc bs) : RR G l d mc ms z mt Q pc ll (xi x :: st) lay μ bc bs := by
  subst hs
  exact xr_istore_n hd hi hk k
theorem xr_istore' {i : Nat} {x : Int} (hd : decode mt.2.1 pc = .ok (.istore i, 2)) (hi : i < mt.2.2.1) (hk : x_chk ll i = true) (hs : ll.set i (some (xi x)) = ll') (k : RR G l d mc ms z mt Q (pc + 2) ll' st lay μ bc bs) : RR G l d mc ms z mt Q pc ll (xi x :: st) lay μ bc bs := by
  subst hs
  exact xr_istore hd hi hk k
theorem xr_astore_n' {n : Fin 4} {x : Nat} (hd : decode mt.2.1 pc = .ok (.astore_n n, 1)) (hi : (n : Nat) < mt.2.2.1) (hk : x_chk ll n = true) (hs : ll.set n (some (xr G x)) = ll') (k : RR G l d mc ms z mt Q (pc + 1) ll' st lay μ bc bs) : RR G l d mc ms z mt Q pc ll (xr G x :: st) lay μ bc bs := by
  subst hs
  exact xr_astore_n hd hi hk k
theorem xr_astore' {i : Nat} {x : Nat} (hd : decode mt.2.1 pc = .ok (.astore i, 2)) (hi : i < mt.2.2.1) (hk : x_chk ll i = true) (hs : ll.set i (some (xr G x)) = ll') (k : RR G l d mc ms z mt Q (pc + 2) ll' st lay μ bc bs) : RR G l d mc ms z mt Q pc ll (xr G x :: st) lay μ bc bs := by
  subst hs
  exact xr_astore hd hi hk k
theorem xr_lstore_n' {n : Fin 4} {x : Int} (hd : decode mt.2.1 pc = .ok (.lstore_n n, 1)) (hi : (n : Nat) + 1 < mt.2.2.1) (hk : x_chk ll n = true) (hs : (ll.set n (some (xl x))).set (n + 1) none = ll') (k : RR G l d mc ms z mt Q (pc + 1) ll' st lay μ bc bs) : RR G l d mc ms z mt Q pc ll (xl x :: st) lay μ bc bs := by
  subst hs
  exact xr_lstore_n hd hi hk k
theorem xr_lstore' {i : Nat} {x : Int} (hd : decode mt.2.1 pc = .ok (.lstore i, 2)) (hi : i + 1 < mt.2.2.1) (hk : x_chk ll i = true) (hs : (ll.set i (some (xl x))).set (i + 1) none = ll') (k : RR G l d mc ms z mt Q (pc + 2) ll' st lay μ bc bs) : RR G l d mc ms z mt Q pc ll (xl x :: st) lay μ bc bs := by
  subst hs
  exact xr_lstore hd hi hk k
theorem xr_iinc' {i : Nat} {n x : Int} (hd : decode mt.2.1 pc = .ok (.iinc i n, 3)) (hx : ll[i]? = some (some (xi x))) (hi : i < mt.2.2.1) (hk : x_chk ll i = true) (hs : ll.set i (some (xi (x + n))) = ll') (k : RR G l d mc ms z mt Q (pc + 3) ll' st lay μ bc bs) : RR G l d mc ms z mt Q pc ll st lay μ bc bs := by
  subst hs
  exact xr_iinc hd hx hi hk k
theorem xr_getI' {k ci j index : Nat} {J v : Int} {fs : List (Option (Option Nat))} (hd : decode mt.2.1 pc = .ok (.getfield index, 3)) (hF : xFl mt.1.cls index ci j) (hL : lay[k]? = some (.inr (ci, fs))) (hv : fs[j]? = some none) (hJ : (j : Int) = J) (he : μ k J = v) (K : RR G l d mc ms z mt Q (pc + 3) ll (xi v :: st) lay μ bc bs) : RR G l d mc ms z mt Q pc ll (xr G k :: st) lay μ bc bs := by
  subst he
  exact xr_getI hd hF hL hv hJ K
theorem xr_iaload' {k n : Nat} {N i v : Int} (hd : decode mt.2.1 pc = .ok (.iaload, 1)) (hL : lay[k]? = some (.inl (0, n))) (hN : (n : Int) = N) (hn : n < 2147483648) (hi : 0 ≤ i ∧ i < N) (he : μ k i = v) (K : RR G l d mc ms z mt Q (pc + 1) ll (xi v :: st) lay μ bc bs) : RR G l d mc ms z mt Q pc ll (xi i :: xr G k :: st) lay μ bc bs := by
  subst he
  exact xr_iaload hd hL hN hn hi K
theorem xr_baload' {k n : Nat} {N i v : Int} (hd : decode mt.2.1 pc = .ok (.baload, 1)) (hL : lay[k]? = some (.inl (1, n))) (hN : (n : Int) = N) (hn : n < 2147483648) (hi : 0 ≤ i ∧ i < N) (he : μ k i = v) (K : RR G l d mc ms z mt Q (pc + 1) ll (xi v :: st) lay μ bc bs) : RR G l d mc ms z mt Q pc ll (xi i :: xr G k :: st) lay μ bc bs := by
  subst he
  exact xr_baload hd hL hN hn hi K
theorem xr_zaload' {k n : Nat} {N i v : Int} (hd : decode mt.2.1 pc = .ok (.baload, 1)) (hL : lay[k]? = some (.inl (2, n))) (hN : (n : Int) = N) (hn : n < 2147483648) (hi : 0 ≤ i ∧ i < N) (he : μ k i = v) (K : RR G l d mc ms z mt Q (pc + 1) ll (xi v :: st) lay μ bc bs) : RR G l d mc ms z mt Q pc ll (xi i :: xr G k :: st) lay μ bc bs := by
  subst he
  exact xr_zaload hd hL hN hn hi K
theorem xr_laload' {k n : Nat} {N i v : Int} (hd : decode mt.2.1 pc = .ok (.laload, 1)) (hL : lay[k]? = some (.inl (3, n))) (hN : (n : Int) = N) (hn : n < 2147483648) (hi : 0 ≤ i ∧ i < N) (he : μ k i = v) (K : RR G l d mc ms z mt Q (pc + 1) ll (xl v :: st) lay μ bc bs) : RR G l d mc ms z mt Q pc ll (xi i :: xr G k :: st) lay μ bc bs := by
  subst he
  exact xr_laload hd hL hN hn hi K
theorem xr_cvI {k ci index n : Nat} {fs : List (Option (Option Nat))} {U : u_T} {N : Nat} {As : List Value} {mt' : xMT} {P : Int → xMem → Prop} {st0 : List Value} (hd : decode mt.2.1 pc = .ok (.invokevirtual index, 3)) (hM : xMi mt' n) (hlink : Cond.methodLink mt.1.cls index mt'.1 ∈ xTs) (hsel : Cond.selects mt'.1.cls mt'.1 mt'.1 ∈ xTs) (hL : LAY[k]? = some (.inr (ci, fs))) (hc : vwCl[ci]? = some (mt'.1.cls, U, N)) (hn : As.length = n) (hst : st0 = As.reverse ++ xr G k :: st) (hw : (st.map fun v => v.category).sum ≤ 8) (hc1 : CI G l d mt' (xr G k :: As) μ P) (K : ∀ (x : Int) (μ' : xMem), iR x → P x μ' → RR G l (d + 1) 0 0 false mt Q (pc + 3) ll (xi x :: st) LAY μ' 0 0) : RR G l (d + 1) 0 0 false mt Q pc ll st0 LAY μ 0 0 :=
  xr_callV hd hM hlink hsel hL hc hn hst hw (Nat.le_refl _) (Nat.le_refl _) (Nat.le_refl _) hc1 (fun r lay' μ' hq => by
    obtain ⟨rfl, x, rfl, hx, hp⟩ := hq
    exact K x μ' hx hp)
theorem xr_csI {index n : Nat} {As : List Value} {mt' : xMT} {P : Int → xMem → Prop} {st0 : List Value} (hd : decode mt.2.1 pc = .ok (.invokestatic index, 3)) (hM : xMs mt' n) (hlink : Cond.methodLink mt.1.cls index mt'.1 ∈ xTs) (hn : As.length = n) (hst : st0 = As.reverse ++ st) (hw : (st.map fun v => v.category).sum ≤ 8) (hc1 : CI G l d mt' As μ P) (K : ∀ (x : Int) (μ' : xMem), iR x → P x μ' → RR G l (d + 1) 0 0 false mt Q (pc + 3) ll (xi x :: st) LAY μ' 0 0) : RR G l (d + 1) 0 0 false mt Q pc ll st0 LAY μ 0 0 :=
  xr_callS hd hM hlink hn hst hw (Nat.le_refl _) (Nat.le_refl _) (Nat.le_refl _) hc1 (fun r lay' μ' hq => by
    obtain ⟨rfl, x, rfl, hx, hp⟩ := hq
    exact K x μ' hx hp)
theorem xr_csNI {index n : Nat} {host : String} {As : List Value} {mt' : xMT} {P : Int → xMem → Prop} {st0 : List Value} (hd : decode mt.2.1 pc = .ok (.invokestatic index, 3)) (hM : xMs mt' n) (hlink : Cond.methodLinkNest mt.1.cls index mt'.1 host ∈ xTn) (hn : As.length = n) (hst : st0 = As.reverse ++ st) (hw : (st.map fun v => v.category).sum ≤ 8) (hc1 : CI G l d mt' As μ P) (K : ∀ (x : Int) (μ' : xMem), iR x → P x μ' → RR G l (d + 1) 0 0 false mt Q (pc + 3) ll (xi x :: st) LAY μ' 0 0) : RR G l (d + 1) 0 0 false mt Q pc ll st0 LAY μ 0 0 :=
  xr_callSN hd hM hlink hn hst hw (Nat.le_refl _) (Nat.le_refl _) (Nat.le_refl _) hc1 (fun r lay' μ' hq => by
    obtain ⟨rfl, x, rfl, hx, hp⟩ := hq
    exact K x μ' hx hp)
theorem xr_cvL {k ci index n : Nat} {fs : List (Option (Option Nat))} {U : u_T} {N : Nat} {As : List Value} {mt' : xMT} {P : Int → xMem → Prop} {st0 : List Value} (hd : decode mt.2.1 pc = .ok (.invokevirtual index, 3)) (hM : xMi mt' n) (hlink : Cond.methodLink mt.1.cls index mt'.1 ∈ xTs) (hsel : Cond.selects mt'.1.cls mt'.1 mt'.1 ∈ xTs) (hL : LAY[k]? = some (.inr (ci, fs))) (hc : vwCl[ci]? = some (mt'.1.cls, U, N)) (hn : As.length = n) (hst : st0 = As.reverse ++ xr G k :: st) (hw : (st.map fun v => v.category).sum ≤ 8) (hc1 : CL G l d mt' (xr G k :: As) μ P) (K : ∀ (x : Int) (μ' : xMem), lR x → P x μ' → RR G l (d + 1) 0 0 false mt Q (pc + 3) ll (xl x :: st) LAY μ' 0 0) : RR G l (d + 1) 0 0 false mt Q pc ll st0 LAY μ 0 0 :=
  xr_callV hd hM hlink hsel hL hc hn hst hw (Nat.le_refl _) (Nat.le_refl _) (Nat.le_refl _) hc1 (fun r lay' μ' hq => by
    obtain ⟨rfl, x, rfl, hx, hp⟩ := hq
    exact K x μ' hx hp)
theorem xr_csL {index n : Nat} {As : List Value} {mt' : xMT} {P : Int → xMem → Prop} {st0 : List Value} (hd : decode mt.2.1 pc = .ok (.invokestatic index, 3)) (hM : xMs mt' n) (hlink : Cond.methodLink mt.1.cls index mt'.1 ∈ xTs) (hn : As.length = n) (hst : st0 = As.reverse ++ st) (hw : (st.map fun v => v.category).sum ≤ 8) (hc1 : CL G l d mt' As μ P) (K : ∀ (x : Int) (μ' : xMem), lR x → P x μ' → RR G l (d + 1) 0 0 false mt Q (pc + 3) ll (xl x :: st) LAY μ' 0 0) : RR G l (d + 1) 0 0 false mt Q pc ll st0 LAY μ 0 0 :=
  xr_callS hd hM hlink hn hst hw (Nat.le_refl _) (Nat.le_refl _) (Nat.le_refl _) hc1 (fun r lay' μ' hq => by
    obtain ⟨rfl, x, rfl, hx, hp⟩ := hq
    exact K x μ' hx hp)
theorem xr_csNL {index n : Nat} {host : String} {As : List Value} {mt' : xMT} {P : Int → xMem → Prop} {st0 : List Value} (hd : decode mt.2.1 pc = .ok (.invokestatic index, 3)) (hM : xMs mt' n) (hlink : Cond.methodLinkNest mt.1.cls index mt'.1 host ∈ xTn) (hn : As.length = n) (hst : st0 = As.reverse ++ st) (hw : (st.map fun v => v.category).sum ≤ 8) (hc1 : CL G l d mt' As μ P) (K : ∀ (x : Int) (μ' : xMem), lR x → P x μ' → RR G l (d + 1) 0 0 false mt Q (pc + 3) ll (xl x :: st) LAY μ' 0 0) : RR G l (d + 1) 0 0 false mt Q pc ll st0 LAY μ 0 0 :=
  xr_callSN hd hM hlink hn hst hw (Nat.le_refl _) (Nat.le_refl _) (Nat.le_refl _) hc1 (fun r lay' μ' hq => by
    obtain ⟨rfl, x, rfl, hx, hp⟩ := hq
    exact K x μ' hx hp)
theorem xr_cvV {k ci index n : Nat} {fs : List (Option (Option Nat))} {U : u_T} {N : Nat} {As : List Value} {mt' : xMT} {P : xMem → Prop} {st0 : List Value} (hd : decode mt.2.1 pc = .ok (.invokevirtual index, 3)) (hM : xMi mt' n) (hlink : Cond.methodLink mt.1.cls index mt'.1 ∈ xTs) (hsel : Cond.selects mt'.1.cls mt'.1 mt'.1 ∈ xTs) (hL : LAY[k]? = some (.inr (ci, fs))) (hc : vwCl[ci]? = some (mt'.1.cls, U, N)) (hn : As.length = n) (hst : st0 = As.reverse ++ xr G k :: st) (hw : (st.map fun v => v.category).sum ≤ 8) (hc1 : CV G l d mt' (xr G k :: As) μ P) (K : ∀ (μ' : xMem), P μ' → RR G l (d + 1) 0 0 false mt Q (pc + 3) ll st LAY μ' 0 0) : RR G l (d + 1) 0 0 false mt Q pc ll st0 LAY μ 0 0 :=
  xr_callV hd hM hlink hsel hL hc hn hst hw (Nat.le_refl _) (Nat.le_refl _) (Nat.le_refl _) hc1 (fun r lay' μ' hq => by
    obtain ⟨rfl, rfl, hp⟩ := hq
    exact K μ' hp)
theorem xr_csV {index n : Nat} {As : List Value} {mt' : xMT} {P : xMem → Prop} {st0 : List Value} (hd : decode mt.2.1 pc = .ok (.invokestatic index, 3)) (hM : xMs mt' n) (hlink : Cond.methodLink mt.1.cls index mt'.1 ∈ xTs) (hn : As.length = n) (hst : st0 = As.reverse ++ st) (hw : (st.map fun v => v.category).sum ≤ 8) (hc1 : CV G l d mt' As μ P) (K : ∀ (μ' : xMem), P μ' → RR G l (d + 1) 0 0 false mt Q (pc + 3) ll st LAY μ' 0 0) : RR G l (d + 1) 0 0 false mt Q pc ll st0 LAY μ 0 0 :=
  xr_callS hd hM hlink hn hst hw (Nat.le_refl _) (Nat.le_refl _) (Nat.le_refl _) hc1 (fun r lay' μ' hq => by
    obtain ⟨rfl, rfl, hp⟩ := hq
    exact K μ' hp)
theorem xr_csNV {index n : Nat} {host : String} {As : List Value} {mt' : xMT} {P : xMem → Prop} {st0 : List Value} (hd : decode mt.2.1 pc = .ok (.invokestatic index, 3)) (hM : xMs mt' n) (hlink : Cond.methodLinkNest mt.1.cls index mt'.1 host ∈ xTn) (hn : As.length = n) (hst : st0 = As.reverse ++ st) (hw : (st.map fun v => v.category).sum ≤ 8) (hc1 : CV G l d mt' As μ P) (K : ∀ (μ' : xMem), P μ' → RR G l (d + 1) 0 0 false mt Q (pc + 3) ll st LAY μ' 0 0) : RR G l (d + 1) 0 0 false mt Q pc ll st0 LAY μ 0 0 :=
  xr_callSN hd hM hlink hn hst hw (Nat.le_refl _) (Nat.le_refl _) (Nat.le_refl _) hc1 (fun r lay' μ' hq => by
    obtain ⟨rfl, rfl, hp⟩ := hq
    exact K μ' hp)
theorem x_iR (a : Int32) : iR a.toInt := ⟨Int32.le_toInt a, Int32.toInt_lt a⟩
theorem x_lR (a : Int64) : lR a.toInt := ⟨Int64.le_toInt a, Int64.toInt_lt a⟩
theorem jR_and (x y : Int) : iR (jand x y) := x_iR _
theorem jR_or (x y : Int) : iR (jor x y) := x_iR _
theorem jR_shl (x y : Int) : iR (jshl x y) := x_iR _
theorem jR_shr (x y : Int) : iR (jshr x y) := x_iR _
theorem jR_ushr (x y : Int) : iR (jushr x y) := x_iR _
theorem jR_lor (x y : Int) : lR (jlor x y) := x_lR _
theorem jR_lshl (x y : Int) : lR (jlshl x y) := x_lR _
theorem jR_lushr (x y : Int) : lR (jlushr x y) := x_lR _
theorem jR_8 (x : Int) : iR (j8 x) := by unfold j8; omega
theorem jR_cmp (x y : Int) : iR (jcmp x y) := by unfold jcmp; split <;> (try split) <;> omega
theorem x_ite {p : Prop} [Decidable p] {x y : Int} (hx : iR x) (hy : iR y) : iR (if p then y else x) := by split <;> assumption
theorem x_01 {x : Int} (h : x = 0 ∨ x = 1) : iR x := by rcases h with rfl | rfl <;> decide
theorem iR_lR {x : Int} (h : iR x) : lR x := by omega
theorem hn_R {n : Nat} (h : n < 2147483648) : iR (n : Int) := by omega
theorem xPS_R (n : Nat) : iR (xPS n) := by
  have h : ∀ a ∈ ([30, 24, 23, 25, 31, 21, 22, 26, 20, 27] : List Int), iR a := by decide
  unfold xPS
  rcases Nat.lt_or_ge n 10 with q | q
  · rw [List.getD_eq_getElem?_getD, List.getElem?_eq_getElem (by exact q)]
    exact h _ (List.getElem_mem _)
  · rw [List.getD_eq_getElem?_getD, List.getElem?_eq_none (by exact q)]
    decide
end LayB
