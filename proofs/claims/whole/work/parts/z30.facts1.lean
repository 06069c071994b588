/-! Part 30: printed by wip/whole/emit4.py: what the code of every method keeps. -/
theorem fc90 : FACTS 90 := fact_plain (own := 11) (R := rc90) (by decide +kernel) rd90 ra90 (by decide +kernel) (by decide +kernel) (by decide +kernel) rfl
theorem fc91 : FACTS 91 := fact_plain (own := 11) (R := rc91) (by decide +kernel) rd91 ra91 (by decide +kernel) (by decide +kernel) (by decide +kernel) rfl
theorem fc92 : FACTS 92 := fact_plain (own := 11) (R := rc92) (by decide +kernel) rd92 ra92 (by decide +kernel) (by decide +kernel) (by decide +kernel) rfl
theorem fc93 : FACTS 93 := fact_plain (own := 11) (R := rc93) (by decide +kernel) rd93 ra93 (by decide +kernel) (by decide +kernel) (by decide +kernel) rfl
theorem fc94 : FACTS 94 := fact_plain (own := 11) (R := rc94) (by decide +kernel) rd94 ra94 (by decide +kernel) (by decide +kernel) (by decide +kernel) rfl
theorem fc95 : FACTS 95 := fact_plain (own := 11) (R := rc95) (by decide +kernel) rd95 ra95 (by decide +kernel) (by decide +kernel) (by decide +kernel) rfl
theorem fc96 : FACTS 96 := fact_plain (own := 11) (R := rc96) (by decide +kernel) rd96 ra96 (by decide +kernel) (by decide +kernel) (by decide +kernel) rfl
theorem fc97 : FACTS 97 := fact_plain (own := 11) (R := rc97) (by decide +kernel) rd97 ra97 (by decide +kernel) (by decide +kernel) (by decide +kernel) rfl
theorem fc98 : FACTS 98 := fact_plain (own := 11) (R := rc98) (by decide +kernel) rd98 ra98 (by decide +kernel) (by decide +kernel) (by decide +kernel) rfl
theorem fc99 : FACTS 99 := fact_plain (own := 11) (R := rc99) (by decide +kernel) rd99 ra99 (by decide +kernel) (by decide +kernel) (by decide +kernel) rfl
theorem fc100 : FACTS 100 := fact_plain (own := 11) (R := rc100) (by decide +kernel) rd100 ra100 (by decide +kernel) (by decide +kernel) (by decide +kernel) rfl
theorem fc101 : FACTS 101 := fact_plain (own := 11) (R := rc101) (by decide +kernel) rd101 ra101 (by decide +kernel) (by decide +kernel) (by decide +kernel) rfl
theorem fc102 : FACTS 102 := fact_plain (own := 11) (R := rc102) (by decide +kernel) rd102 ra102 (by decide +kernel) (by decide +kernel) (by decide +kernel) rfl
theorem fc103 : FACTS 103 := fact_plain (own := 11) (R := rc103) (by decide +kernel) rd103 ra103 (by decide +kernel) (by decide +kernel) (by decide +kernel) rfl
theorem fc104 : FACTS 104 := fact_plain (own := 11) (R := rc104) (by decide +kernel) rd104 ra104 (by decide +kernel) (by decide +kernel) (by decide +kernel) rfl
theorem fc105 : FACTS 105 := fact_plain (own := 11) (R := rc105) (by decide +kernel) rd105 ra105 (by decide +kernel) (by decide +kernel) (by decide +kernel) rfl
theorem fc106 : FACTS 106 := fact_plain (own := 11) (R := rc106) (by decide +kernel) rd106 ra106 (by decide +kernel) (by decide +kernel) (by decide +kernel) rfl
theorem fc107 : FACTS 107 := fact_plain (own := 11) (R := rc107) (by decide +kernel) rd107 ra107 (by decide +kernel) (by decide +kernel) (by decide +kernel) rfl
theorem fc108 : FACTS 108 := fact_plain (own := 11) (R := rc108) (by decide +kernel) rd108 ra108 (by decide +kernel) (by decide +kernel) (by decide +kernel) rfl
theorem fc109 : FACTS 109 := fact_plain (own := 11) (R := rc109) (by decide +kernel) rd109 ra109 (by decide +kernel) (by decide +kernel) (by decide +kernel) rfl
theorem fc110 : FACTS 110 := fact_plain (own := 11) (R := rc110) (by decide +kernel) rd110 ra110 (by decide +kernel) (by decide +kernel) (by decide +kernel) rfl
theorem fc111 : FACTS 111 := fact_plain (own := 11) (R := rc111) (by decide +kernel) rd111 ra111 (by decide +kernel) (by decide +kernel) (by decide +kernel) rfl
theorem fc112 : FACTS 112 := fact_plain (own := 11) (R := rc112) (by decide +kernel) rd112 ra112 (by decide +kernel) (by decide +kernel) (by decide +kernel) rfl
theorem fc113 : FACTS 113 := fact_plain (own := 11) (R := rc113) (by decide +kernel) rd113 ra113 (by decide +kernel) (by decide +kernel) (by decide +kernel) rfl
theorem fc114 : FACTS 114 := fact_plain (own := 11) (R := rc114) (by decide +kernel) rd114 ra114 (by decide +kernel) (by decide +kernel) (by decide +kernel) rfl
theorem fc115 : FACTS 115 := fact_plain (own := 11) (R := rc115) (by decide +kernel) rd115 ra115 (by decide +kernel) (by decide +kernel) (by decide +kernel) rfl
theorem fc116 : FACTS 116 := fact_plain (own := 11) (R := rc116) (by decide +kernel) rd116 ra116 (by decide +kernel) (by decide +kernel) (by decide +kernel) rfl
theorem fc117 : FACTS 117 := fact_plain (own := 11) (R := rc117) (by decide +kernel) rd117 ra117 (by decide +kernel) (by decide +kernel) (by decide +kernel) rfl
theorem fc118 : FACTS 118 := fact_plain (own := 11) (R := rc118) (by decide +kernel) rd118 ra118 (by decide +kernel) (by decide +kernel) (by decide +kernel) rfl
theorem fc119 : FACTS 119 := fact_plain (own := 11) (R := rc119) (by decide +kernel) rd119 ra119 (by decide +kernel) (by decide +kernel) (by decide +kernel) rfl
theorem fc120 : FACTS 120 := fact_plain (own := 11) (R := rc120) (by decide +kernel) rd120 ra120 (by decide +kernel) (by decide +kernel) (by decide +kernel) rfl
theorem fc121 : FACTS 121 := fact_plain (own := 11) (R := rc121) (by decide +kernel) rd121 ra121 (by decide +kernel) (by decide +kernel) (by decide +kernel) rfl
theorem fc122 : FACTS 122 := fact_plain (own := 11) (R := rc122) (by decide +kernel) rd122 ra122 (by decide +kernel) (by decide +kernel) (by decide +kernel) rfl
theorem fc123 : FACTS 123 := fact_plain (own := 11) (R := rc123) (by decide +kernel) rd123 ra123 (by decide +kernel) (by decide +kernel) (by decide +kernel) rfl
theorem fc124 : FACTS 124 := fact_plain (own := 11) (R := rc124) (by decide +kernel) rd124 ra124 (by decide +kernel) (by decide +kernel) (by decide +kernel) rfl
theorem fc125 : FACTS 125 := fact_plain (own := 11) (R := rc125) (by decide +kernel) rd125 ra125 (by decide +kernel) (by decide +kernel) (by decide +kernel) rfl
theorem fc126 : FACTS 126 := fact_plain (own := 11) (R := rc126) (by decide +kernel) rd126 ra126 (by decide +kernel) (by decide +kernel) (by decide +kernel) rfl
theorem fc127 : FACTS 127 := fact_plain (own := 11) (R := rc127) (by decide +kernel) rd127 ra127 (by decide +kernel) (by decide +kernel) (by decide +kernel) rfl
theorem fc128 : FACTS 128 := fact_plain (own := 11) (R := rc128) (by decide +kernel) rd128 ra128 (by decide +kernel) (by decide +kernel) (by decide +kernel) rfl
theorem fc129 : FACTS 129 := fact_plain (own := 11) (R := rc129) (by decide +kernel) rd129 ra129 (by decide +kernel) (by decide +kernel) (by decide +kernel) rfl
theorem fc130 : FACTS 130 := fact_plain (own := 11) (R := rc130) (by decide +kernel) rd130 ra130 (by decide +kernel) (by decide +kernel) (by decide +kernel) rfl
theorem fc131 : FACTS 131 := fact_plain (own := 11) (R := rc131) (by decide +kernel) rd131 ra131 (by decide +kernel) (by decide +kernel) (by decide +kernel) rfl
theorem fc132 : FACTS 132 := fact_plain (own := 11) (R := rc132) (by decide +kernel) rd132 ra132 (by decide +kernel) (by decide +kernel) (by decide +kernel) rfl
theorem fc133 : FACTS 133 := fact_plain (own := 11) (R := rc133) (by decide +kernel) rd133 ra133 (by decide +kernel) (by decide +kernel) (by decide +kernel) rfl
theorem fc134 : FACTS 134 := fact_plain (own := 11) (R := rc134) (by decide +kernel) rd134 ra134 (by decide +kernel) (by decide +kernel) (by decide +kernel) rfl
theorem fc135 : FACTS 135 := fact_plain (own := 11) (R := rc135) (by decide +kernel) rd135 ra135 (by decide +kernel) (by decide +kernel) (by decide +kernel) rfl
theorem fc136 : FACTS 136 := fact_plain (own := 11) (R := rc136) (by decide +kernel) rd136 ra136 (by decide +kernel) (by decide +kernel) (by decide +kernel) rfl
theorem fc137 : FACTS 137 := fact_plain (own := 11) (R := rc137) (by decide +kernel) rd137 ra137 (by decide +kernel) (by decide +kernel) (by decide +kernel) rfl
theorem fc138 : FACTS 138 := fact_plain (own := 11) (R := rc138) (by decide +kernel) rd138 ra138 (by decide +kernel) (by decide +kernel) (by decide +kernel) rfl
theorem fc139 : FACTS 139 := fact_plain (own := 11) (R := rc139) (by decide +kernel) rd139 ra139 (by decide +kernel) (by decide +kernel) (by decide +kernel) rfl
theorem fc140 : FACTS 140 := by
  refine ⟨rc140, 11, by decide +kernel, fun q hq => of_decide_eq_true (List.all_eq_true.mp rd140 q hq), ra140, by decide +kernel, ?_, ?_, rfl⟩
  · exact fun pc ks h => by
      have h9 := idx_of (ps := [5]) (P := isThr) (by decide +kernel) h rfl
      simp only [List.mem_cons, List.not_mem_nil, or_false] at h9
      subst h9
      exact ⟨rfl, thrT.getD 0 (0, ""), by decide +kernel, by decide +kernel, by decide +kernel, Or.inl ⟨by decide +kernel, by decide +kernel, by decide +kernel⟩⟩
  · exact fun pc a b ks h => absurd (idx_of (ps := []) (P := isIfc) (by decide +kernel) h rfl) List.not_mem_nil
theorem fc141 : FACTS 141 := by
  refine ⟨rc141, 11, by decide +kernel, fun q hq => of_decide_eq_true (List.all_eq_true.mp rd141 q hq), ra141, by decide +kernel, ?_, ?_, rfl⟩
  · exact fun pc ks h => by
      have h9 := idx_of (ps := [10]) (P := isThr) (by decide +kernel) h rfl
      simp only [List.mem_cons, List.not_mem_nil, or_false] at h9
      subst h9
      exact ⟨rfl, thrT.getD 1 (0, ""), by decide +kernel, by decide +kernel, by decide +kernel, Or.inl ⟨by decide +kernel, by decide +kernel, by decide +kernel⟩⟩
  · exact fun pc a b ks h => absurd (idx_of (ps := []) (P := isIfc) (by decide +kernel) h rfl) List.not_mem_nil
theorem fc142 : FACTS 142 := by
  refine ⟨rc142, 11, by decide +kernel, fun q hq => of_decide_eq_true (List.all_eq_true.mp rd142 q hq), ra142, by decide +kernel, ?_, ?_, rfl⟩
  · exact fun pc ks h => by
      have h9 := idx_of (ps := [10]) (P := isThr) (by decide +kernel) h rfl
      simp only [List.mem_cons, List.not_mem_nil, or_false] at h9
      subst h9
      exact ⟨rfl, thrT.getD 2 (0, ""), by decide +kernel, by decide +kernel, by decide +kernel, Or.inl ⟨by decide +kernel, by decide +kernel, by decide +kernel⟩⟩
  · exact fun pc a b ks h => absurd (idx_of (ps := []) (P := isIfc) (by decide +kernel) h rfl) List.not_mem_nil
theorem fc143 : FACTS 143 := by
  refine ⟨rc143, 11, by decide +kernel, fun q hq => of_decide_eq_true (List.all_eq_true.mp rd143 q hq), ra143, by decide +kernel, ?_, ?_, rfl⟩
  · exact fun pc ks h => by
      have h9 := idx_of (ps := [5]) (P := isThr) (by decide +kernel) h rfl
      simp only [List.mem_cons, List.not_mem_nil, or_false] at h9
      subst h9
      exact ⟨rfl, thrT.getD 3 (0, ""), by decide +kernel, by decide +kernel, by decide +kernel, Or.inr ⟨by decide +kernel, by decide +kernel, by decide +kernel⟩⟩
  · exact fun pc a b ks h => absurd (idx_of (ps := []) (P := isIfc) (by decide +kernel) h rfl) List.not_mem_nil
theorem fc144 : FACTS 144 := by
  refine ⟨rc144, 11, by decide +kernel, fun q hq => of_decide_eq_true (List.all_eq_true.mp rd144 q hq), ra144, by decide +kernel, ?_, ?_, rfl⟩
  · exact fun pc ks h => by
      have h9 := idx_of (ps := [25, 37]) (P := isThr) (by decide +kernel) h rfl
      simp only [List.mem_cons, List.not_mem_nil, or_false] at h9
      rcases h9 with rfl | rfl
      · exact ⟨rfl, thrT.getD 4 (0, ""), by decide +kernel, by decide +kernel, by decide +kernel, Or.inr ⟨by decide +kernel, by decide +kernel, by decide +kernel⟩⟩
      · exact ⟨rfl, thrT.getD 5 (0, ""), by decide +kernel, by decide +kernel, by decide +kernel, Or.inr ⟨by decide +kernel, by decide +kernel, by decide +kernel⟩⟩
  · exact fun pc a b ks h => absurd (idx_of (ps := []) (P := isIfc) (by decide +kernel) h rfl) List.not_mem_nil
theorem fc145 : FACTS 145 := fact_plain (own := 11) (R := rc145) (by decide +kernel) rd145 ra145 (by decide +kernel) (by decide +kernel) (by decide +kernel) rfl
theorem fc146 : FACTS 146 := fact_plain (own := 11) (R := rc146) (by decide +kernel) rd146 ra146 (by decide +kernel) (by decide +kernel) (by decide +kernel) rfl
theorem fc147 : FACTS 147 := fact_plain (own := 11) (R := rc147) (by decide +kernel) rd147 ra147 (by decide +kernel) (by decide +kernel) (by decide +kernel) rfl
theorem fc148 : FACTS 148 := fact_plain (own := 11) (R := rc148) (by decide +kernel) rd148 ra148 (by decide +kernel) (by decide +kernel) (by decide +kernel) rfl
theorem fc149 : FACTS 149 := fact_plain (own := 12) (R := rc149) (by decide +kernel) rd149 ra149 (by decide +kernel) (by decide +kernel) (by decide +kernel) rfl
theorem fc150 : FACTS 150 := fact_plain (own := 12) (R := rc150) (by decide +kernel) rd150 ra150 (by decide +kernel) (by decide +kernel) (by decide +kernel) rfl
theorem fc151 : FACTS 151 := fact_plain (own := 12) (R := rc151) (by decide +kernel) rd151 ra151 (by decide +kernel) (by decide +kernel) (by decide +kernel) rfl
theorem fc152 : FACTS 152 := fact_plain (own := 12) (R := rc152) (by decide +kernel) rd152 ra152 (by decide +kernel) (by decide +kernel) (by decide +kernel) rfl
theorem fc153 : FACTS 153 := fact_plain (own := 12) (R := rc153) (by decide +kernel) rd153 ra153 (by decide +kernel) (by decide +kernel) (by decide +kernel) rfl
theorem fc154 : FACTS 154 := fact_plain (own := 12) (R := rc154) (by decide +kernel) rd154 ra154 (by decide +kernel) (by decide +kernel) (by decide +kernel) rfl
theorem fc155 : FACTS 155 := fact_plain (own := 12) (R := rc155) (by decide +kernel) rd155 ra155 (by decide +kernel) (by decide +kernel) (by decide +kernel) rfl
theorem fc156 : FACTS 156 := fact_plain (own := 12) (R := rc156) (by decide +kernel) rd156 ra156 (by decide +kernel) (by decide +kernel) (by decide +kernel) rfl
theorem fc157 : FACTS 157 := fact_plain (own := 12) (R := rc157) (by decide +kernel) rd157 ra157 (by decide +kernel) (by decide +kernel) (by decide +kernel) rfl
theorem fc158 : FACTS 158 := fact_plain (own := 12) (R := rc158) (by decide +kernel) rd158 ra158 (by decide +kernel) (by decide +kernel) (by decide +kernel) rfl
theorem fc159 : FACTS 159 := fact_plain (own := 12) (R := rc159) (by decide +kernel) rd159 ra159 (by decide +kernel) (by decide +kernel) (by decide +kernel) rfl
theorem fc160 : FACTS 160 := fact_plain (own := 12) (R := rc160) (by decide +kernel) rd160 ra160 (by decide +kernel) (by decide +kernel) (by decide +kernel) rfl
theorem fc161 : FACTS 161 := fact_plain (own := 12) (R := rc161) (by decide +kernel) rd161 ra161 (by decide +kernel) (by decide +kernel) (by decide +kernel) rfl
theorem fc162 : FACTS 162 := fact_plain (own := 12) (R := rc162) (by decide +kernel) rd162 ra162 (by decide +kernel) (by decide +kernel) (by decide +kernel) rfl
theorem fc163 : FACTS 163 := fact_plain (own := 12) (R := rc163) (by decide +kernel) rd163 ra163 (by decide +kernel) (by decide +kernel) (by decide +kernel) rfl
theorem fc164 : FACTS 164 := fact_plain (own := 12) (R := rc164) (by decide +kernel) rd164 ra164 (by decide +kernel) (by decide +kernel) (by decide +kernel) rfl
theorem fc165 : FACTS 165 := fact_plain (own := 12) (R := rc165) (by decide +kernel) rd165 ra165 (by decide +kernel) (by decide +kernel) (by decide +kernel) rfl
theorem fc166 : FACTS 166 := fact_plain (own := 12) (R := rc166) (by decide +kernel) rd166 ra166 (by decide +kernel) (by decide +kernel) (by decide +kernel) rfl
theorem fc167 : FACTS 167 := fact_plain (own := 12) (R := rc167) (by decide +kernel) rd167 ra167 (by decide +kernel) (by decide +kernel) (by decide +kernel) rfl
theorem fc168 : FACTS 168 := fact_plain (own := 12) (R := rc168) (by decide +kernel) rd168 ra168 (by decide +kernel) (by decide +kernel) (by decide +kernel) rfl
theorem fc169 : FACTS 169 := fact_plain (own := 12) (R := rc169) (by decide +kernel) rd169 ra169 (by decide +kernel) (by decide +kernel) (by decide +kernel) rfl
theorem fc170 : FACTS 170 := fact_plain (own := 12) (R := rc170) (by decide +kernel) rd170 ra170 (by decide +kernel) (by decide +kernel) (by decide +kernel) rfl
theorem fc171 : FACTS 171 := fact_plain (own := 12) (R := rc171) (by decide +kernel) rd171 ra171 (by decide +kernel) (by decide +kernel) (by decide +kernel) rfl
theorem fc172 : FACTS 172 := fact_plain (own := 12) (R := rc172) (by decide +kernel) rd172 ra172 (by decide +kernel) (by decide +kernel) (by decide +kernel) rfl
theorem fc173 : FACTS 173 := fact_plain (own := 12) (R := rc173) (by decide +kernel) rd173 ra173 (by decide +kernel) (by decide +kernel) (by decide +kernel) rfl
theorem fc174 : FACTS 174 := fact_plain (own := 12) (R := rc174) (by decide +kernel) rd174 ra174 (by decide +kernel) (by decide +kernel) (by decide +kernel) rfl
theorem fc175 : FACTS 175 := fact_plain (own := 12) (R := rc175) (by decide +kernel) rd175 ra175 (by decide +kernel) (by decide +kernel) (by decide +kernel) rfl
theorem fc176 : FACTS 176 := fact_plain (own := 12) (R := rc176) (by decide +kernel) rd176 ra176 (by decide +kernel) (by decide +kernel) (by decide +kernel) rfl
theorem fc177 : FACTS 177 := fact_plain (own := 12) (R := rc177) (by decide +kernel) rd177 ra177 (by decide +kernel) (by decide +kernel) (by decide +kernel) rfl
theorem fc178 : FACTS 178 := fact_plain (own := 12) (R := rc178) (by decide +kernel) rd178 ra178 (by decide +kernel) (by decide +kernel) (by decide +kernel) rfl
theorem fc179 : FACTS 179 := fact_plain (own := 12) (R := rc179) (by decide +kernel) rd179 ra179 (by decide +kernel) (by decide +kernel) (by decide +kernel) rfl
