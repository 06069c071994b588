/-! Part 30: printed by wip/whole/emit4.py: what the code of every method keeps. -/
theorem fc180 : FACTS 180 := fact_plain (own := 12) (R := rc180) (by decide +kernel) rd180 ra180 (by decide +kernel) (by decide +kernel) (by decide +kernel) rfl
theorem fc181 : FACTS 181 := fact_plain (own := 12) (R := rc181) (by decide +kernel) rd181 ra181 (by decide +kernel) (by decide +kernel) (by decide +kernel) rfl
theorem fc182 : FACTS 182 := fact_plain (own := 12) (R := rc182) (by decide +kernel) rd182 ra182 (by decide +kernel) (by decide +kernel) (by decide +kernel) rfl
theorem fc183 : FACTS 183 := fact_plain (own := 12) (R := rc183) (by decide +kernel) rd183 ra183 (by decide +kernel) (by decide +kernel) (by decide +kernel) rfl
theorem fc184 : FACTS 184 := fact_plain (own := 12) (R := rc184) (by decide +kernel) rd184 ra184 (by decide +kernel) (by decide +kernel) (by decide +kernel) rfl
theorem fc185 : FACTS 185 := fact_plain (own := 12) (R := rc185) (by decide +kernel) rd185 ra185 (by decide +kernel) (by decide +kernel) (by decide +kernel) rfl
theorem fc186 : FACTS 186 := fact_plain (own := 12) (R := rc186) (by decide +kernel) rd186 ra186 (by decide +kernel) (by decide +kernel) (by decide +kernel) rfl
theorem fc187 : FACTS 187 := fact_plain (own := 12) (R := rc187) (by decide +kernel) rd187 ra187 (by decide +kernel) (by decide +kernel) (by decide +kernel) rfl
theorem fc188 : FACTS 188 := fact_plain (own := 12) (R := rc188) (by decide +kernel) rd188 ra188 (by decide +kernel) (by decide +kernel) (by decide +kernel) rfl
theorem fc189 : FACTS 189 := fact_plain (own := 12) (R := rc189) (by decide +kernel) rd189 ra189 (by decide +kernel) (by decide +kernel) (by decide +kernel) rfl
theorem fc190 : FACTS 190 := fact_plain (own := 12) (R := rc190) (by decide +kernel) rd190 ra190 (by decide +kernel) (by decide +kernel) (by decide +kernel) rfl
theorem fc191 : FACTS 191 := fact_plain (own := 12) (R := rc191) (by decide +kernel) rd191 ra191 (by decide +kernel) (by decide +kernel) (by decide +kernel) rfl
theorem fc192 : FACTS 192 := fact_plain (own := 12) (R := rc192) (by decide +kernel) rd192 ra192 (by decide +kernel) (by decide +kernel) (by decide +kernel) rfl
theorem fc193 : FACTS 193 := fact_plain (own := 12) (R := rc193) (by decide +kernel) rd193 ra193 (by decide +kernel) (by decide +kernel) (by decide +kernel) rfl
theorem fc194 : FACTS 194 := fact_plain (own := 12) (R := rc194) (by decide +kernel) rd194 ra194 (by decide +kernel) (by decide +kernel) (by decide +kernel) rfl
theorem fc195 : FACTS 195 := fact_plain (own := 12) (R := rc195) (by decide +kernel) rd195 ra195 (by decide +kernel) (by decide +kernel) (by decide +kernel) rfl
theorem fc196 : FACTS 196 := fact_plain (own := 12) (R := rc196) (by decide +kernel) rd196 ra196 (by decide +kernel) (by decide +kernel) (by decide +kernel) rfl
theorem fc197 : FACTS 197 := fact_plain (own := 12) (R := rc197) (by decide +kernel) rd197 ra197 (by decide +kernel) (by decide +kernel) (by decide +kernel) rfl
theorem fc198 : FACTS 198 := fact_plain (own := 12) (R := rc198) (by decide +kernel) rd198 ra198 (by decide +kernel) (by decide +kernel) (by decide +kernel) rfl
theorem fc199 : FACTS 199 := fact_plain (own := 12) (R := rc199) (by decide +kernel) rd199 ra199 (by decide +kernel) (by decide +kernel) (by decide +kernel) rfl
theorem fc200 : FACTS 200 := fact_plain (own := 12) (R := rc200) (by decide +kernel) rd200 ra200 (by decide +kernel) (by decide +kernel) (by decide +kernel) rfl
theorem fc201 : FACTS 201 := fact_plain (own := 12) (R := rc201) (by decide +kernel) rd201 ra201 (by decide +kernel) (by decide +kernel) (by decide +kernel) rfl
theorem fc202 : FACTS 202 := fact_plain (own := 12) (R := rc202) (by decide +kernel) rd202 ra202 (by decide +kernel) (by decide +kernel) (by decide +kernel) rfl
theorem fc203 : FACTS 203 := fact_plain (own := 12) (R := rc203) (by decide +kernel) rd203 ra203 (by decide +kernel) (by decide +kernel) (by decide +kernel) rfl
theorem fc204 : FACTS 204 := fact_plain (own := 12) (R := rc204) (by decide +kernel) rd204 ra204 (by decide +kernel) (by decide +kernel) (by decide +kernel) rfl
theorem fc205 : FACTS 205 := fact_plain (own := 12) (R := rc205) (by decide +kernel) rd205 ra205 (by decide +kernel) (by decide +kernel) (by decide +kernel) rfl
theorem fc206 : FACTS 206 := fact_plain (own := 12) (R := rc206) (by decide +kernel) rd206 ra206 (by decide +kernel) (by decide +kernel) (by decide +kernel) rfl
theorem fc207 : FACTS 207 := fact_plain (own := 12) (R := rc207) (by decide +kernel) rd207 ra207 (by decide +kernel) (by decide +kernel) (by decide +kernel) rfl
theorem fc208 : FACTS 208 := fact_plain (own := 12) (R := rc208) (by decide +kernel) rd208 ra208 (by decide +kernel) (by decide +kernel) (by decide +kernel) rfl
theorem fc209 : FACTS 209 := fact_plain (own := 12) (R := rc209) (by decide +kernel) rd209 ra209 (by decide +kernel) (by decide +kernel) (by decide +kernel) rfl
theorem fc210 : FACTS 210 := fact_plain (own := 12) (R := rc210) (by decide +kernel) rd210 ra210 (by decide +kernel) (by decide +kernel) (by decide +kernel) rfl
theorem fc211 : FACTS 211 := fact_plain (own := 12) (R := rc211) (by decide +kernel) rd211 ra211 (by decide +kernel) (by decide +kernel) (by decide +kernel) rfl
theorem fc212 : FACTS 212 := fact_plain (own := 12) (R := rc212) (by decide +kernel) rd212 ra212 (by decide +kernel) (by decide +kernel) (by decide +kernel) rfl
theorem fc213 : FACTS 213 := fact_plain (own := 12) (R := rc213) (by decide +kernel) rd213 ra213 (by decide +kernel) (by decide +kernel) (by decide +kernel) rfl
theorem fc214 : FACTS 214 := fact_plain (own := 12) (R := rc214) (by decide +kernel) rd214 ra214 (by decide +kernel) (by decide +kernel) (by decide +kernel) rfl
theorem fc215 : FACTS 215 := fact_plain (own := 12) (R := rc215) (by decide +kernel) rd215 ra215 (by decide +kernel) (by decide +kernel) (by decide +kernel) rfl
theorem fc216 : FACTS 216 := fact_plain (own := 12) (R := rc216) (by decide +kernel) rd216 ra216 (by decide +kernel) (by decide +kernel) (by decide +kernel) rfl
theorem fc217 : FACTS 217 := fact_plain (own := 12) (R := rc217) (by decide +kernel) rd217 ra217 (by decide +kernel) (by decide +kernel) (by decide +kernel) rfl
theorem fc218 : FACTS 218 := fact_plain (own := 12) (R := rc218) (by decide +kernel) rd218 ra218 (by decide +kernel) (by decide +kernel) (by decide +kernel) rfl
theorem fc219 : FACTS 219 := fact_plain (own := 12) (R := rc219) (by decide +kernel) rd219 ra219 (by decide +kernel) (by decide +kernel) (by decide +kernel) rfl
theorem fc220 : FACTS 220 := fact_plain (own := 12) (R := rc220) (by decide +kernel) rd220 ra220 (by decide +kernel) (by decide +kernel) (by decide +kernel) rfl
theorem fc221 : FACTS 221 := fact_plain (own := 12) (R := rc221) (by decide +kernel) rd221 ra221 (by decide +kernel) (by decide +kernel) (by decide +kernel) rfl
theorem fc222 : FACTS 222 := fact_plain (own := 12) (R := rc222) (by decide +kernel) rd222 ra222 (by decide +kernel) (by decide +kernel) (by decide +kernel) rfl
theorem fc223 : FACTS 223 := fact_plain (own := 12) (R := rc223) (by decide +kernel) rd223 ra223 (by decide +kernel) (by decide +kernel) (by decide +kernel) rfl
theorem fc224 : FACTS 224 := fact_plain (own := 12) (R := rc224) (by decide +kernel) rd224 ra224 (by decide +kernel) (by decide +kernel) (by decide +kernel) rfl
theorem fc225 : FACTS 225 := fact_plain (own := 12) (R := rc225) (by decide +kernel) rd225 ra225 (by decide +kernel) (by decide +kernel) (by decide +kernel) rfl
theorem fc226 : FACTS 226 := fact_plain (own := 12) (R := rc226) (by decide +kernel) rd226 ra226 (by decide +kernel) (by decide +kernel) (by decide +kernel) rfl
theorem fc227 : FACTS 227 := fact_plain (own := 12) (R := rc227) (by decide +kernel) rd227 ra227 (by decide +kernel) (by decide +kernel) (by decide +kernel) rfl
theorem fc228 : FACTS 228 := fact_plain (own := 12) (R := rc228) (by decide +kernel) rd228 ra228 (by decide +kernel) (by decide +kernel) (by decide +kernel) rfl
theorem fc229 : FACTS 229 := fact_plain (own := 12) (R := rc229) (by decide +kernel) rd229 ra229 (by decide +kernel) (by decide +kernel) (by decide +kernel) rfl
theorem fc230 : FACTS 230 := fact_plain (own := 12) (R := rc230) (by decide +kernel) rd230 ra230 (by decide +kernel) (by decide +kernel) (by decide +kernel) rfl
theorem fc231 : FACTS 231 := fact_plain (own := 12) (R := rc231) (by decide +kernel) rd231 ra231 (by decide +kernel) (by decide +kernel) (by decide +kernel) rfl
theorem fc232 : FACTS 232 := fact_plain (own := 12) (R := rc232) (by decide +kernel) rd232 ra232 (by decide +kernel) (by decide +kernel) (by decide +kernel) rfl
theorem fc233 : FACTS 233 := fact_plain (own := 12) (R := rc233) (by decide +kernel) rd233 ra233 (by decide +kernel) (by decide +kernel) (by decide +kernel) rfl
theorem fc234 : FACTS 234 := fact_plain (own := 12) (R := rc234) (by decide +kernel) rd234 ra234 (by decide +kernel) (by decide +kernel) (by decide +kernel) rfl
theorem fc235 : FACTS 235 := fact_plain (own := 12) (R := rc235) (by decide +kernel) rd235 ra235 (by decide +kernel) (by decide +kernel) (by decide +kernel) rfl
theorem fc236 : FACTS 236 := fact_plain (own := 12) (R := rc236) (by decide +kernel) rd236 ra236 (by decide +kernel) (by decide +kernel) (by decide +kernel) rfl
theorem fc237 : FACTS 237 := fact_plain (own := 12) (R := rc237) (by decide +kernel) rd237 ra237 (by decide +kernel) (by decide +kernel) (by decide +kernel) rfl
theorem fc238 : FACTS 238 := fact_plain (own := 12) (R := rc238) (by decide +kernel) rd238 ra238 (by decide +kernel) (by decide +kernel) (by decide +kernel) rfl
theorem fc239 : FACTS 239 := fact_plain (own := 12) (R := rc239) (by decide +kernel) rd239 ra239 (by decide +kernel) (by decide +kernel) (by decide +kernel) rfl
theorem fc240 : FACTS 240 := fact_plain (own := 12) (R := rc240) (by decide +kernel) rd240 ra240 (by decide +kernel) (by decide +kernel) (by decide +kernel) rfl
theorem fc241 : FACTS 241 := fact_plain (own := 12) (R := rc241) (by decide +kernel) rd241 ra241 (by decide +kernel) (by decide +kernel) (by decide +kernel) rfl
theorem fc242 : FACTS 242 := fact_plain (own := 12) (R := rc242) (by decide +kernel) rd242 ra242 (by decide +kernel) (by decide +kernel) (by decide +kernel) rfl
theorem fc243 : FACTS 243 := fact_plain (own := 12) (R := rc243) (by decide +kernel) rd243 ra243 (by decide +kernel) (by decide +kernel) (by decide +kernel) rfl
theorem fc244 : FACTS 244 := fact_plain (own := 12) (R := rc244) (by decide +kernel) rd244 ra244 (by decide +kernel) (by decide +kernel) (by decide +kernel) rfl
theorem fc245 : FACTS 245 := fact_plain (own := 12) (R := rc245) (by decide +kernel) rd245 ra245 (by decide +kernel) (by decide +kernel) (by decide +kernel) rfl
theorem fc246 : FACTS 246 := fact_plain (own := 12) (R := rc246) (by decide +kernel) rd246 ra246 (by decide +kernel) (by decide +kernel) (by decide +kernel) rfl
theorem fc247 : FACTS 247 := fact_plain (own := 12) (R := rc247) (by decide +kernel) rd247 ra247 (by decide +kernel) (by decide +kernel) (by decide +kernel) rfl
theorem fc248 : FACTS 248 := fact_plain (own := 19) (R := rc248) (by decide +kernel) rd248 ra248 (by decide +kernel) (by decide +kernel) (by decide +kernel) rfl
theorem fc249 : FACTS 249 := fact_plain (own := 13) (R := rc249) (by decide +kernel) rd249 ra249 (by decide +kernel) (by decide +kernel) (by decide +kernel) rfl
theorem fc250 : FACTS 250 := fact_plain (own := 13) (R := rc250) (by decide +kernel) rd250 ra250 (by decide +kernel) (by decide +kernel) (by decide +kernel) rfl
theorem fc251 : FACTS 251 := fact_plain (own := 13) (R := rc251) (by decide +kernel) rd251 ra251 (by decide +kernel) (by decide +kernel) (by decide +kernel) rfl
theorem fc252 : FACTS 252 := fact_plain (own := 13) (R := rc252) (by decide +kernel) rd252 ra252 (by decide +kernel) (by decide +kernel) (by decide +kernel) rfl
theorem fc253 : FACTS 253 := fact_plain (own := 13) (R := rc253) (by decide +kernel) rd253 ra253 (by decide +kernel) (by decide +kernel) (by decide +kernel) rfl
theorem fc254 : FACTS 254 := fact_plain (own := 13) (R := rc254) (by decide +kernel) rd254 ra254 (by decide +kernel) (by decide +kernel) (by decide +kernel) rfl
theorem fc255 : FACTS 255 := fact_plain (own := 13) (R := rc255) (by decide +kernel) rd255 ra255 (by decide +kernel) (by decide +kernel) (by decide +kernel) rfl
theorem fc256 : FACTS 256 := fact_plain (own := 15) (R := rc256) (by decide +kernel) rd256 ra256 (by decide +kernel) (by decide +kernel) (by decide +kernel) rfl
theorem fc257 : FACTS 257 := fact_plain (own := 15) (R := rc257) (by decide +kernel) rd257 ra257 (by decide +kernel) (by decide +kernel) (by decide +kernel) rfl
theorem fc258 : FACTS 258 := fact_plain (own := 15) (R := rc258) (by decide +kernel) rd258 ra258 (by decide +kernel) (by decide +kernel) (by decide +kernel) rfl
theorem fc259 : FACTS 259 := fact_plain (own := 15) (R := rc259) (by decide +kernel) rd259 ra259 (by decide +kernel) (by decide +kernel) (by decide +kernel) rfl
theorem fc260 : FACTS 260 := fact_plain (own := 16) (R := rc260) (by decide +kernel) rd260 ra260 (by decide +kernel) (by decide +kernel) (by decide +kernel) rfl
theorem fc261 : FACTS 261 := fact_plain (own := 16) (R := rc261) (by decide +kernel) rd261 ra261 (by decide +kernel) (by decide +kernel) (by decide +kernel) rfl
theorem fc262 : FACTS 262 := fact_plain (own := 17) (R := rc262) (by decide +kernel) rd262 ra262 (by decide +kernel) (by decide +kernel) (by decide +kernel) rfl
theorem fc263 : FACTS 263 := fact_plain (own := 17) (R := rc263) (by decide +kernel) rd263 ra263 (by decide +kernel) (by decide +kernel) (by decide +kernel) rfl
theorem fc264 : FACTS 264 := fact_plain (own := 18) (R := rc264) (by decide +kernel) rd264 ra264 (by decide +kernel) (by decide +kernel) (by decide +kernel) rfl
theorem fc265 : FACTS 265 := fact_plain (own := 20) (R := rc265) (by decide +kernel) rd265 ra265 (by decide +kernel) (by decide +kernel) (by decide +kernel) rfl
theorem fc266 : FACTS 266 := by
  refine ⟨rc266, 14, by decide +kernel, fun q hq => of_decide_eq_true (List.all_eq_true.mp rd266 q hq), ra266, by decide +kernel, ?_, ?_, rfl⟩
  · exact fun pc ks h => absurd (idx_of (ps := []) (P := isThr) (by decide +kernel) h rfl) List.not_mem_nil
  · exact fun pc a b ks h => by
      have h9 := idx_of (ps := [4]) (P := isIfc) (by decide +kernel) h rfl
      simp only [List.mem_cons, List.not_mem_nil, or_false] at h9
      subst h9
      have e : (prog 266).1[4]? = some (.invokeinterface 140 9, []) := rfl
      rw [e] at h
      cases h
      exact ⟨rfl, fun c hc => ⟨⟨0, 9, 12, 13⟩, hc, by decide +kernel, rfl, 3, 1, Or.inr ⟨3, rfl, by decide +kernel, rfl⟩, by decide +kernel, by decide +kernel⟩⟩
theorem fc267 : FACTS 267 := by
  refine ⟨rc267, 14, by decide +kernel, fun q hq => of_decide_eq_true (List.all_eq_true.mp rd267 q hq), ra267, by decide +kernel, ?_, ?_, rfl⟩
  · exact fun pc ks h => absurd (idx_of (ps := []) (P := isThr) (by decide +kernel) h rfl) List.not_mem_nil
  · exact fun pc a b ks h => by
      have h9 := idx_of (ps := [5]) (P := isIfc) (by decide +kernel) h rfl
      simp only [List.mem_cons, List.not_mem_nil, or_false] at h9
      subst h9
      have e : (prog 267).1[5]? = some (.invokeinterface 141 10, []) := rfl
      rw [e] at h
      cases h
      exact ⟨rfl, fun c hc => ⟨⟨0, 10, 13, 13⟩, hc, by decide +kernel, rfl, 4, 2, Or.inl ⟨by decide +kernel, rfl⟩, by decide +kernel, by decide +kernel⟩⟩
theorem fc268 : FACTS 268 := by
  refine ⟨rc268, 14, by decide +kernel, fun q hq => of_decide_eq_true (List.all_eq_true.mp rd268 q hq), ra268, by decide +kernel, ?_, ?_, rfl⟩
  · exact fun pc ks h => absurd (idx_of (ps := []) (P := isThr) (by decide +kernel) h rfl) List.not_mem_nil
  · exact fun pc a b ks h => by
      have h9 := idx_of (ps := [5]) (P := isIfc) (by decide +kernel) h rfl
      simp only [List.mem_cons, List.not_mem_nil, or_false] at h9
      subst h9
      have e : (prog 268).1[5]? = some (.invokeinterface 142 10, []) := rfl
      rw [e] at h
      cases h
      exact ⟨rfl, fun c hc => ⟨⟨0, 10, 13, 13⟩, hc, by decide +kernel, rfl, 4, 2, Or.inl ⟨by decide +kernel, rfl⟩, by decide +kernel, by decide +kernel⟩⟩
theorem fc269 : FACTS 269 := by
  refine ⟨rc269, 14, by decide +kernel, fun q hq => of_decide_eq_true (List.all_eq_true.mp rd269 q hq), ra269, by decide +kernel, ?_, ?_, rfl⟩
  · exact fun pc ks h => absurd (idx_of (ps := []) (P := isThr) (by decide +kernel) h rfl) List.not_mem_nil
  · exact fun pc a b ks h => by
      have h9 := idx_of (ps := [4]) (P := isIfc) (by decide +kernel) h rfl
      simp only [List.mem_cons, List.not_mem_nil, or_false] at h9
      subst h9
      have e : (prog 269).1[4]? = some (.invokeinterface 143 9, []) := rfl
      rw [e] at h
      cases h
      exact ⟨rfl, fun c hc => ⟨⟨0, 9, 12, 13⟩, hc, by decide +kernel, rfl, 3, 1, Or.inr ⟨3, rfl, by decide +kernel, rfl⟩, by decide +kernel, by decide +kernel⟩⟩
theorem fc270 : FACTS 270 := by
  refine ⟨rc270, 14, by decide +kernel, fun q hq => of_decide_eq_true (List.all_eq_true.mp rd270 q hq), ra270, by decide +kernel, ?_, ?_, rfl⟩
  · exact fun pc ks h => absurd (idx_of (ps := []) (P := isThr) (by decide +kernel) h rfl) List.not_mem_nil
  · exact fun pc a b ks h => by
      have h9 := idx_of (ps := [7]) (P := isIfc) (by decide +kernel) h rfl
      simp only [List.mem_cons, List.not_mem_nil, or_false] at h9
      subst h9
      have e : (prog 270).1[7]? = some (.invokeinterface 144 11, []) := rfl
      rw [e] at h
      cases h
      exact ⟨rfl, fun c hc => ⟨⟨0, 13, 16, 13⟩, hc, by decide +kernel, rfl, 6, 2, Or.inl ⟨by decide +kernel, rfl⟩, by decide +kernel, by decide +kernel⟩⟩
