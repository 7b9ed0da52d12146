/-! THE CLAIM OUT OF ONE WALK OF THE LAW'S BODY. Your part is whole_start (and what it stands on); all else here is the same for every law, but numbers. -/
def R_law : String := "SeenADayLateLaw"
def lw_P (b : Addr) (xs : List Int32) (args : Array Value) (s : State) : Prop := args = #[.ref b] ∧ s.IntsAt b xs ∧ xs.length ≤ 2560 ∧ (Jvm.Cond.and given_1 narrow_1).before args s = true
def lw_Q (_ : Array Value) (s : State) (o : Outcome) (t : State) : Prop := o = .returned (some (.int 1)) ∧ Framed s o t [] 600000 7302250
def lw_Z (below : List Frame) (a : Array Value) (s : State) : State → Prop := fun t => ∃ o, t.status = .running ∧ Ended t below o ∧ lw_Q a s o t
/-- the law's own end, with 1 on the stack, nothing written that was there before, its room as the claim has it -/
theorem lw_ret {p : Program} {l : Launch} {e : Env} {s : State} {m : MethodId} {below : List Frame} {meth : Method} {c : Code} {b : Nat} (hx : p.tables.exec = Jvm.exec) (hb : c.code = code) (hr : meth.sig.returnType = ret) (hlocks : meth.locks = false) {pc : Nat} {H : Heap} {ls : Array Slot} (hdg : decode code pc = .ok (.ireturn, 1)) : W p l e room_1 s m #[Value.ref b] below meth c H [] 600000 7302250 (lw_Z below #[Value.ref b] s) (F0 m pc ls [.int 1]) := by
  intro T hT X
  obtain ⟨fs, hret, hrun, hended, hW, hframe⟩ := X.leave (v := some (.int 1)) (hlocks := hlocks) (fun h => by rw [hr] at h; cases h)
  have hmeth' : T.vm.method? m = some meth := X.method'
  refine ⟨T.setFrames fs, ?_, .returned (some (.int 1)), hrun, hended, rfl, ⟨_, rfl⟩, hW, hframe⟩
  jvm_step X.here [X.here.top, hx, hb, hdg, hmeth', hr, ret, narrow_b1]
  (try refine ⟨rfl, ?_⟩); (try refine ⟨rfl, ?_⟩)
  first | (intro acts; rw [hret _ acts rfl rfl rfl]) | rw [hret _ _ rfl rfl rfl]
  exact Steps.refl _
/-- what holds at the law's entry: the machine, the code, the tables' words (any of lw_tbl by 'hts w (by decide +kernel)'), the script of L ints xs at the cell b, what the Statement gives of the start (any of its parts by flat_of_before) -/
def lw_At (p : Program) (s : State) (m : MethodId) (meth : Method) (c : Code) (b L : Nat) (xs : Nat → Int32) : Prop :=
  p.tables.exec = Jvm.exec ∧ c.code = code ∧ meth.sig.returnType = ret ∧ c.maxLocals = 4 ∧ s.vm.findClass R_law = some m.cls ∧ (∀ w ∈ lw_tbl, w.before #[Value.ref b] s = true) ∧ va_X b L xs s s.heap ∧ b < s.heap.size ∧ meth.locks = false ∧ (Jvm.Cond.and given_1 narrow_1).before #[Value.ref b] s = true
theorem lw_d0 : decode code 0 = .ok (.new 7, 3) := by decide +kernel
theorem lw_d3 : decode code 3 = .ok (.dup, 1) := by decide +kernel
theorem lw_d4 : decode code 4 = .ok (.invokespecial 9, 3) := by decide +kernel
theorem lw_d7 : decode code 7 = .ok (.astore_n 1, 1) := by decide +kernel
theorem lw_d8 : decode code 8 = .ok (.new 10, 3) := by decide +kernel
theorem lw_d11 : decode code 11 = .ok (.dup, 1) := by decide +kernel
theorem lw_d12 : decode code 12 = .ok (.invokespecial 12, 3) := by decide +kernel
theorem lw_d15 : decode code 15 = .ok (.astore_n 2, 1) := by decide +kernel
theorem lw_d16 : decode code 16 = .ok (.iconst 0, 1) := by decide +kernel
theorem lw_d17 : decode code 17 = .ok (.istore_n 3, 1) := by decide +kernel
theorem lw_d18 : decode code 18 = .ok (.iload_n 3, 1) := by decide +kernel
theorem lw_d19 : decode code 19 = .ok (.aload_n 0, 1) := by decide +kernel
theorem lw_d20 : decode code 20 = .ok (.arraylength, 1) := by decide +kernel
theorem lw_d21 : decode code 21 = .ok (.iconst 5, 1) := by decide +kernel
theorem lw_d22 : decode code 22 = .ok (.isub, 1) := by decide +kernel
theorem lw_d23 : decode code 23 = .ok (.if_icmp .gt 883, 3) := by decide +kernel
theorem lw_d26 : decode code 26 = .ok (.aload_n 0, 1) := by decide +kernel
theorem lw_d27 : decode code 27 = .ok (.iload_n 3, 1) := by decide +kernel
theorem lw_d28 : decode code 28 = .ok (.iaload, 1) := by decide +kernel
theorem lw_d29 : decode code 29 = .ok (.bipush 31, 2) := by decide +kernel
theorem lw_d31 : decode code 31 = .ok (.iand, 1) := by decide +kernel
theorem lw_d32 : decode code 32 = .ok (.tableswitch 868 0 25 #[120, 143, 156, 189, 212, 225, 258, 291, 324, 367, 400, 433, 466, 499, 542, 575, 598, 631, 644, 687, 720, 743, 766, 819, 832, 845], 120) := by decide +kernel
theorem lw_d152 : decode code 152 = .ok (.aload_n 1, 1) := by decide +kernel
theorem lw_d153 : decode code 153 = .ok (.aload_n 0, 1) := by decide +kernel
theorem lw_d154 : decode code 154 = .ok (.iload_n 3, 1) := by decide +kernel
theorem lw_d155 : decode code 155 = .ok (.iconst 1, 1) := by decide +kernel
theorem lw_d156 : decode code 156 = .ok (.iadd, 1) := by decide +kernel
theorem lw_d157 : decode code 157 = .ok (.iaload, 1) := by decide +kernel
theorem lw_d158 : decode code 158 = .ok (.invokevirtual 13, 3) := by decide +kernel
theorem lw_d161 : decode code 161 = .ok (.aload_n 2, 1) := by decide +kernel
theorem lw_d162 : decode code 162 = .ok (.aload_n 0, 1) := by decide +kernel
theorem lw_d163 : decode code 163 = .ok (.iload_n 3, 1) := by decide +kernel
theorem lw_d164 : decode code 164 = .ok (.iconst 1, 1) := by decide +kernel
theorem lw_d165 : decode code 165 = .ok (.iadd, 1) := by decide +kernel
theorem lw_d166 : decode code 166 = .ok (.iaload, 1) := by decide +kernel
theorem lw_d167 : decode code 167 = .ok (.invokevirtual 17, 3) := by decide +kernel
theorem lw_d170 : decode code 170 = .ok (.if_icmp .eq 730, 3) := by decide +kernel
theorem lw_d173 : decode code 173 = .ok (.iconst 0, 1) := by decide +kernel
theorem lw_d174 : decode code 174 = .ok (.ireturn, 1) := by decide +kernel
theorem lw_d175 : decode code 175 = .ok (.aload_n 1, 1) := by decide +kernel
theorem lw_d176 : decode code 176 = .ok (.invokevirtual 18, 3) := by decide +kernel
theorem lw_d179 : decode code 179 = .ok (.aload_n 2, 1) := by decide +kernel
theorem lw_d180 : decode code 180 = .ok (.invokevirtual 22, 3) := by decide +kernel
theorem lw_d183 : decode code 183 = .ok (.if_icmp .eq 717, 3) := by decide +kernel
theorem lw_d186 : decode code 186 = .ok (.iconst 0, 1) := by decide +kernel
theorem lw_d187 : decode code 187 = .ok (.ireturn, 1) := by decide +kernel
theorem lw_d188 : decode code 188 = .ok (.aload_n 1, 1) := by decide +kernel
theorem lw_d189 : decode code 189 = .ok (.aload_n 0, 1) := by decide +kernel
theorem lw_d190 : decode code 190 = .ok (.iload_n 3, 1) := by decide +kernel
theorem lw_d191 : decode code 191 = .ok (.iconst 1, 1) := by decide +kernel
theorem lw_d192 : decode code 192 = .ok (.iadd, 1) := by decide +kernel
theorem lw_d193 : decode code 193 = .ok (.iaload, 1) := by decide +kernel
theorem lw_d194 : decode code 194 = .ok (.aload_n 0, 1) := by decide +kernel
theorem lw_d195 : decode code 195 = .ok (.iload_n 3, 1) := by decide +kernel
theorem lw_d196 : decode code 196 = .ok (.iconst 2, 1) := by decide +kernel
theorem lw_d197 : decode code 197 = .ok (.iadd, 1) := by decide +kernel
theorem lw_d198 : decode code 198 = .ok (.iaload, 1) := by decide +kernel
theorem lw_d199 : decode code 199 = .ok (.invokevirtual 23, 3) := by decide +kernel
theorem lw_d202 : decode code 202 = .ok (.aload_n 2, 1) := by decide +kernel
theorem lw_d203 : decode code 203 = .ok (.aload_n 0, 1) := by decide +kernel
theorem lw_d204 : decode code 204 = .ok (.iload_n 3, 1) := by decide +kernel
theorem lw_d205 : decode code 205 = .ok (.iconst 1, 1) := by decide +kernel
theorem lw_d206 : decode code 206 = .ok (.iadd, 1) := by decide +kernel
theorem lw_d207 : decode code 207 = .ok (.iaload, 1) := by decide +kernel
theorem lw_d208 : decode code 208 = .ok (.aload_n 0, 1) := by decide +kernel
theorem lw_d209 : decode code 209 = .ok (.iload_n 3, 1) := by decide +kernel
theorem lw_d210 : decode code 210 = .ok (.iconst 2, 1) := by decide +kernel
theorem lw_d211 : decode code 211 = .ok (.iadd, 1) := by decide +kernel
theorem lw_d212 : decode code 212 = .ok (.iaload, 1) := by decide +kernel
theorem lw_d213 : decode code 213 = .ok (.invokevirtual 27, 3) := by decide +kernel
theorem lw_d216 : decode code 216 = .ok (.if_icmp .eq 684, 3) := by decide +kernel
theorem lw_d219 : decode code 219 = .ok (.iconst 0, 1) := by decide +kernel
theorem lw_d220 : decode code 220 = .ok (.ireturn, 1) := by decide +kernel
theorem lw_d221 : decode code 221 = .ok (.aload_n 1, 1) := by decide +kernel
theorem lw_d222 : decode code 222 = .ok (.aload_n 0, 1) := by decide +kernel
theorem lw_d223 : decode code 223 = .ok (.iload_n 3, 1) := by decide +kernel
theorem lw_d224 : decode code 224 = .ok (.iconst 1, 1) := by decide +kernel
theorem lw_d225 : decode code 225 = .ok (.iadd, 1) := by decide +kernel
theorem lw_d226 : decode code 226 = .ok (.iaload, 1) := by decide +kernel
theorem lw_d227 : decode code 227 = .ok (.invokevirtual 28, 3) := by decide +kernel
theorem lw_d230 : decode code 230 = .ok (.aload_n 2, 1) := by decide +kernel
theorem lw_d231 : decode code 231 = .ok (.aload_n 0, 1) := by decide +kernel
theorem lw_d232 : decode code 232 = .ok (.iload_n 3, 1) := by decide +kernel
theorem lw_d233 : decode code 233 = .ok (.iconst 1, 1) := by decide +kernel
theorem lw_d234 : decode code 234 = .ok (.iadd, 1) := by decide +kernel
theorem lw_d235 : decode code 235 = .ok (.iaload, 1) := by decide +kernel
theorem lw_d236 : decode code 236 = .ok (.invokevirtual 31, 3) := by decide +kernel
theorem lw_d239 : decode code 239 = .ok (.if_icmp .eq 661, 3) := by decide +kernel
theorem lw_d242 : decode code 242 = .ok (.iconst 0, 1) := by decide +kernel
theorem lw_d243 : decode code 243 = .ok (.ireturn, 1) := by decide +kernel
theorem lw_d244 : decode code 244 = .ok (.aload_n 1, 1) := by decide +kernel
theorem lw_d245 : decode code 245 = .ok (.invokevirtual 32, 3) := by decide +kernel
theorem lw_d248 : decode code 248 = .ok (.aload_n 2, 1) := by decide +kernel
theorem lw_d249 : decode code 249 = .ok (.invokevirtual 35, 3) := by decide +kernel
theorem lw_d252 : decode code 252 = .ok (.if_icmp .eq 648, 3) := by decide +kernel
theorem lw_d255 : decode code 255 = .ok (.iconst 0, 1) := by decide +kernel
theorem lw_d256 : decode code 256 = .ok (.ireturn, 1) := by decide +kernel
theorem lw_d257 : decode code 257 = .ok (.aload_n 1, 1) := by decide +kernel
theorem lw_d258 : decode code 258 = .ok (.aload_n 0, 1) := by decide +kernel
theorem lw_d259 : decode code 259 = .ok (.iload_n 3, 1) := by decide +kernel
theorem lw_d260 : decode code 260 = .ok (.iconst 1, 1) := by decide +kernel
theorem lw_d261 : decode code 261 = .ok (.iadd, 1) := by decide +kernel
theorem lw_d262 : decode code 262 = .ok (.iaload, 1) := by decide +kernel
theorem lw_d263 : decode code 263 = .ok (.aload_n 0, 1) := by decide +kernel
theorem lw_d264 : decode code 264 = .ok (.iload_n 3, 1) := by decide +kernel
theorem lw_d265 : decode code 265 = .ok (.iconst 2, 1) := by decide +kernel
theorem lw_d266 : decode code 266 = .ok (.iadd, 1) := by decide +kernel
theorem lw_d267 : decode code 267 = .ok (.iaload, 1) := by decide +kernel
theorem lw_d268 : decode code 268 = .ok (.invokevirtual 36, 3) := by decide +kernel
theorem lw_d271 : decode code 271 = .ok (.aload_n 2, 1) := by decide +kernel
theorem lw_d272 : decode code 272 = .ok (.aload_n 0, 1) := by decide +kernel
theorem lw_d273 : decode code 273 = .ok (.iload_n 3, 1) := by decide +kernel
theorem lw_d274 : decode code 274 = .ok (.iconst 1, 1) := by decide +kernel
theorem lw_d275 : decode code 275 = .ok (.iadd, 1) := by decide +kernel
theorem lw_d276 : decode code 276 = .ok (.iaload, 1) := by decide +kernel
theorem lw_d277 : decode code 277 = .ok (.aload_n 0, 1) := by decide +kernel
theorem lw_d278 : decode code 278 = .ok (.iload_n 3, 1) := by decide +kernel
theorem lw_d279 : decode code 279 = .ok (.iconst 2, 1) := by decide +kernel
theorem lw_d280 : decode code 280 = .ok (.iadd, 1) := by decide +kernel
theorem lw_d281 : decode code 281 = .ok (.iaload, 1) := by decide +kernel
theorem lw_d282 : decode code 282 = .ok (.invokevirtual 39, 3) := by decide +kernel
theorem lw_d285 : decode code 285 = .ok (.if_icmp .eq 615, 3) := by decide +kernel
theorem lw_d288 : decode code 288 = .ok (.iconst 0, 1) := by decide +kernel
theorem lw_d289 : decode code 289 = .ok (.ireturn, 1) := by decide +kernel
theorem lw_d290 : decode code 290 = .ok (.aload_n 1, 1) := by decide +kernel
theorem lw_d291 : decode code 291 = .ok (.aload_n 0, 1) := by decide +kernel
theorem lw_d292 : decode code 292 = .ok (.iload_n 3, 1) := by decide +kernel
theorem lw_d293 : decode code 293 = .ok (.iconst 1, 1) := by decide +kernel
theorem lw_d294 : decode code 294 = .ok (.iadd, 1) := by decide +kernel
theorem lw_d295 : decode code 295 = .ok (.iaload, 1) := by decide +kernel
theorem lw_d296 : decode code 296 = .ok (.aload_n 0, 1) := by decide +kernel
theorem lw_d297 : decode code 297 = .ok (.iload_n 3, 1) := by decide +kernel
theorem lw_d298 : decode code 298 = .ok (.iconst 2, 1) := by decide +kernel
theorem lw_d299 : decode code 299 = .ok (.iadd, 1) := by decide +kernel
theorem lw_d300 : decode code 300 = .ok (.iaload, 1) := by decide +kernel
theorem lw_d301 : decode code 301 = .ok (.invokevirtual 40, 3) := by decide +kernel
theorem lw_d304 : decode code 304 = .ok (.aload_n 2, 1) := by decide +kernel
theorem lw_d305 : decode code 305 = .ok (.aload_n 0, 1) := by decide +kernel
theorem lw_d306 : decode code 306 = .ok (.iload_n 3, 1) := by decide +kernel
theorem lw_d307 : decode code 307 = .ok (.iconst 1, 1) := by decide +kernel
theorem lw_d308 : decode code 308 = .ok (.iadd, 1) := by decide +kernel
theorem lw_d309 : decode code 309 = .ok (.iaload, 1) := by decide +kernel
theorem lw_d310 : decode code 310 = .ok (.aload_n 0, 1) := by decide +kernel
theorem lw_d311 : decode code 311 = .ok (.iload_n 3, 1) := by decide +kernel
theorem lw_d312 : decode code 312 = .ok (.iconst 2, 1) := by decide +kernel
theorem lw_d313 : decode code 313 = .ok (.iadd, 1) := by decide +kernel
theorem lw_d314 : decode code 314 = .ok (.iaload, 1) := by decide +kernel
theorem lw_d315 : decode code 315 = .ok (.invokevirtual 43, 3) := by decide +kernel
theorem lw_d318 : decode code 318 = .ok (.if_icmp .eq 582, 3) := by decide +kernel
theorem lw_d321 : decode code 321 = .ok (.iconst 0, 1) := by decide +kernel
theorem lw_d322 : decode code 322 = .ok (.ireturn, 1) := by decide +kernel
theorem lw_d323 : decode code 323 = .ok (.aload_n 1, 1) := by decide +kernel
theorem lw_d324 : decode code 324 = .ok (.aload_n 0, 1) := by decide +kernel
theorem lw_d325 : decode code 325 = .ok (.iload_n 3, 1) := by decide +kernel
theorem lw_d326 : decode code 326 = .ok (.iconst 1, 1) := by decide +kernel
theorem lw_d327 : decode code 327 = .ok (.iadd, 1) := by decide +kernel
theorem lw_d328 : decode code 328 = .ok (.iaload, 1) := by decide +kernel
theorem lw_d329 : decode code 329 = .ok (.aload_n 0, 1) := by decide +kernel
theorem lw_d330 : decode code 330 = .ok (.iload_n 3, 1) := by decide +kernel
theorem lw_d331 : decode code 331 = .ok (.iconst 2, 1) := by decide +kernel
theorem lw_d332 : decode code 332 = .ok (.iadd, 1) := by decide +kernel
theorem lw_d333 : decode code 333 = .ok (.iaload, 1) := by decide +kernel
theorem lw_d334 : decode code 334 = .ok (.invokevirtual 44, 3) := by decide +kernel
theorem lw_d337 : decode code 337 = .ok (.aload_n 2, 1) := by decide +kernel
theorem lw_d338 : decode code 338 = .ok (.aload_n 0, 1) := by decide +kernel
theorem lw_d339 : decode code 339 = .ok (.iload_n 3, 1) := by decide +kernel
theorem lw_d340 : decode code 340 = .ok (.iconst 1, 1) := by decide +kernel
theorem lw_d341 : decode code 341 = .ok (.iadd, 1) := by decide +kernel
theorem lw_d342 : decode code 342 = .ok (.iaload, 1) := by decide +kernel
theorem lw_d343 : decode code 343 = .ok (.aload_n 0, 1) := by decide +kernel
theorem lw_d344 : decode code 344 = .ok (.iload_n 3, 1) := by decide +kernel
theorem lw_d345 : decode code 345 = .ok (.iconst 2, 1) := by decide +kernel
theorem lw_d346 : decode code 346 = .ok (.iadd, 1) := by decide +kernel
theorem lw_d347 : decode code 347 = .ok (.iaload, 1) := by decide +kernel
theorem lw_d348 : decode code 348 = .ok (.invokevirtual 47, 3) := by decide +kernel
theorem lw_d351 : decode code 351 = .ok (.if_icmp .eq 549, 3) := by decide +kernel
theorem lw_d354 : decode code 354 = .ok (.iconst 0, 1) := by decide +kernel
theorem lw_d355 : decode code 355 = .ok (.ireturn, 1) := by decide +kernel
theorem lw_d356 : decode code 356 = .ok (.aload_n 1, 1) := by decide +kernel
theorem lw_d357 : decode code 357 = .ok (.aload_n 0, 1) := by decide +kernel
theorem lw_d358 : decode code 358 = .ok (.iload_n 3, 1) := by decide +kernel
theorem lw_d359 : decode code 359 = .ok (.iconst 1, 1) := by decide +kernel
theorem lw_d360 : decode code 360 = .ok (.iadd, 1) := by decide +kernel
theorem lw_d361 : decode code 361 = .ok (.iaload, 1) := by decide +kernel
theorem lw_d362 : decode code 362 = .ok (.aload_n 0, 1) := by decide +kernel
theorem lw_d363 : decode code 363 = .ok (.iload_n 3, 1) := by decide +kernel
theorem lw_d364 : decode code 364 = .ok (.iconst 2, 1) := by decide +kernel
theorem lw_d365 : decode code 365 = .ok (.iadd, 1) := by decide +kernel
theorem lw_d366 : decode code 366 = .ok (.iaload, 1) := by decide +kernel
theorem lw_d367 : decode code 367 = .ok (.aload_n 0, 1) := by decide +kernel
theorem lw_d368 : decode code 368 = .ok (.iload_n 3, 1) := by decide +kernel
theorem lw_d369 : decode code 369 = .ok (.iconst 3, 1) := by decide +kernel
theorem lw_d370 : decode code 370 = .ok (.iadd, 1) := by decide +kernel
theorem lw_d371 : decode code 371 = .ok (.iaload, 1) := by decide +kernel
theorem lw_d372 : decode code 372 = .ok (.invokevirtual 48, 3) := by decide +kernel
theorem lw_d375 : decode code 375 = .ok (.aload_n 2, 1) := by decide +kernel
theorem lw_d376 : decode code 376 = .ok (.aload_n 0, 1) := by decide +kernel
theorem lw_d377 : decode code 377 = .ok (.iload_n 3, 1) := by decide +kernel
theorem lw_d378 : decode code 378 = .ok (.iconst 1, 1) := by decide +kernel
theorem lw_d379 : decode code 379 = .ok (.iadd, 1) := by decide +kernel
theorem lw_d380 : decode code 380 = .ok (.iaload, 1) := by decide +kernel
theorem lw_d381 : decode code 381 = .ok (.aload_n 0, 1) := by decide +kernel
theorem lw_d382 : decode code 382 = .ok (.iload_n 3, 1) := by decide +kernel
theorem lw_d383 : decode code 383 = .ok (.iconst 2, 1) := by decide +kernel
theorem lw_d384 : decode code 384 = .ok (.iadd, 1) := by decide +kernel
theorem lw_d385 : decode code 385 = .ok (.iaload, 1) := by decide +kernel
theorem lw_d386 : decode code 386 = .ok (.aload_n 0, 1) := by decide +kernel
theorem lw_d387 : decode code 387 = .ok (.iload_n 3, 1) := by decide +kernel
theorem lw_d388 : decode code 388 = .ok (.iconst 3, 1) := by decide +kernel
theorem lw_d389 : decode code 389 = .ok (.iadd, 1) := by decide +kernel
theorem lw_d390 : decode code 390 = .ok (.iaload, 1) := by decide +kernel
theorem lw_d391 : decode code 391 = .ok (.invokevirtual 52, 3) := by decide +kernel
theorem lw_d394 : decode code 394 = .ok (.if_icmp .eq 506, 3) := by decide +kernel
theorem lw_d397 : decode code 397 = .ok (.iconst 0, 1) := by decide +kernel
theorem lw_d398 : decode code 398 = .ok (.ireturn, 1) := by decide +kernel
theorem lw_d399 : decode code 399 = .ok (.aload_n 1, 1) := by decide +kernel
theorem lw_d400 : decode code 400 = .ok (.aload_n 0, 1) := by decide +kernel
theorem lw_d401 : decode code 401 = .ok (.iload_n 3, 1) := by decide +kernel
theorem lw_d402 : decode code 402 = .ok (.iconst 1, 1) := by decide +kernel
theorem lw_d403 : decode code 403 = .ok (.iadd, 1) := by decide +kernel
theorem lw_d404 : decode code 404 = .ok (.iaload, 1) := by decide +kernel
theorem lw_d405 : decode code 405 = .ok (.aload_n 0, 1) := by decide +kernel
theorem lw_d406 : decode code 406 = .ok (.iload_n 3, 1) := by decide +kernel
theorem lw_d407 : decode code 407 = .ok (.iconst 2, 1) := by decide +kernel
theorem lw_d408 : decode code 408 = .ok (.iadd, 1) := by decide +kernel
theorem lw_d409 : decode code 409 = .ok (.iaload, 1) := by decide +kernel
theorem lw_d410 : decode code 410 = .ok (.invokevirtual 53, 3) := by decide +kernel
theorem lw_d413 : decode code 413 = .ok (.aload_n 2, 1) := by decide +kernel
theorem lw_d414 : decode code 414 = .ok (.aload_n 0, 1) := by decide +kernel
theorem lw_d415 : decode code 415 = .ok (.iload_n 3, 1) := by decide +kernel
theorem lw_d416 : decode code 416 = .ok (.iconst 1, 1) := by decide +kernel
theorem lw_d417 : decode code 417 = .ok (.iadd, 1) := by decide +kernel
theorem lw_d418 : decode code 418 = .ok (.iaload, 1) := by decide +kernel
theorem lw_d419 : decode code 419 = .ok (.aload_n 0, 1) := by decide +kernel
theorem lw_d420 : decode code 420 = .ok (.iload_n 3, 1) := by decide +kernel
theorem lw_d421 : decode code 421 = .ok (.iconst 2, 1) := by decide +kernel
theorem lw_d422 : decode code 422 = .ok (.iadd, 1) := by decide +kernel
theorem lw_d423 : decode code 423 = .ok (.iaload, 1) := by decide +kernel
theorem lw_d424 : decode code 424 = .ok (.invokevirtual 56, 3) := by decide +kernel
theorem lw_d427 : decode code 427 = .ok (.if_icmp .eq 473, 3) := by decide +kernel
theorem lw_d430 : decode code 430 = .ok (.iconst 0, 1) := by decide +kernel
theorem lw_d431 : decode code 431 = .ok (.ireturn, 1) := by decide +kernel
theorem lw_d432 : decode code 432 = .ok (.aload_n 1, 1) := by decide +kernel
theorem lw_d433 : decode code 433 = .ok (.aload_n 0, 1) := by decide +kernel
theorem lw_d434 : decode code 434 = .ok (.iload_n 3, 1) := by decide +kernel
theorem lw_d435 : decode code 435 = .ok (.iconst 1, 1) := by decide +kernel
theorem lw_d436 : decode code 436 = .ok (.iadd, 1) := by decide +kernel
theorem lw_d437 : decode code 437 = .ok (.iaload, 1) := by decide +kernel
theorem lw_d438 : decode code 438 = .ok (.aload_n 0, 1) := by decide +kernel
theorem lw_d439 : decode code 439 = .ok (.iload_n 3, 1) := by decide +kernel
theorem lw_d440 : decode code 440 = .ok (.iconst 2, 1) := by decide +kernel
theorem lw_d441 : decode code 441 = .ok (.iadd, 1) := by decide +kernel
theorem lw_d442 : decode code 442 = .ok (.iaload, 1) := by decide +kernel
theorem lw_d443 : decode code 443 = .ok (.invokevirtual 57, 3) := by decide +kernel
theorem lw_d446 : decode code 446 = .ok (.aload_n 2, 1) := by decide +kernel
theorem lw_d447 : decode code 447 = .ok (.aload_n 0, 1) := by decide +kernel
theorem lw_d448 : decode code 448 = .ok (.iload_n 3, 1) := by decide +kernel
theorem lw_d449 : decode code 449 = .ok (.iconst 1, 1) := by decide +kernel
theorem lw_d450 : decode code 450 = .ok (.iadd, 1) := by decide +kernel
theorem lw_d451 : decode code 451 = .ok (.iaload, 1) := by decide +kernel
theorem lw_d452 : decode code 452 = .ok (.aload_n 0, 1) := by decide +kernel
theorem lw_d453 : decode code 453 = .ok (.iload_n 3, 1) := by decide +kernel
theorem lw_d454 : decode code 454 = .ok (.iconst 2, 1) := by decide +kernel
theorem lw_d455 : decode code 455 = .ok (.iadd, 1) := by decide +kernel
theorem lw_d456 : decode code 456 = .ok (.iaload, 1) := by decide +kernel
theorem lw_d457 : decode code 457 = .ok (.invokevirtual 60, 3) := by decide +kernel
theorem lw_d460 : decode code 460 = .ok (.if_icmp .eq 440, 3) := by decide +kernel
theorem lw_d463 : decode code 463 = .ok (.iconst 0, 1) := by decide +kernel
theorem lw_d464 : decode code 464 = .ok (.ireturn, 1) := by decide +kernel
theorem lw_d465 : decode code 465 = .ok (.aload_n 1, 1) := by decide +kernel
theorem lw_d466 : decode code 466 = .ok (.aload_n 0, 1) := by decide +kernel
theorem lw_d467 : decode code 467 = .ok (.iload_n 3, 1) := by decide +kernel
theorem lw_d468 : decode code 468 = .ok (.iconst 1, 1) := by decide +kernel
theorem lw_d469 : decode code 469 = .ok (.iadd, 1) := by decide +kernel
theorem lw_d470 : decode code 470 = .ok (.iaload, 1) := by decide +kernel
theorem lw_d471 : decode code 471 = .ok (.aload_n 0, 1) := by decide +kernel
theorem lw_d472 : decode code 472 = .ok (.iload_n 3, 1) := by decide +kernel
theorem lw_d473 : decode code 473 = .ok (.iconst 2, 1) := by decide +kernel
theorem lw_d474 : decode code 474 = .ok (.iadd, 1) := by decide +kernel
theorem lw_d475 : decode code 475 = .ok (.iaload, 1) := by decide +kernel
theorem lw_d476 : decode code 476 = .ok (.invokevirtual 61, 3) := by decide +kernel
theorem lw_d479 : decode code 479 = .ok (.aload_n 2, 1) := by decide +kernel
theorem lw_d480 : decode code 480 = .ok (.aload_n 0, 1) := by decide +kernel
theorem lw_d481 : decode code 481 = .ok (.iload_n 3, 1) := by decide +kernel
theorem lw_d482 : decode code 482 = .ok (.iconst 1, 1) := by decide +kernel
theorem lw_d483 : decode code 483 = .ok (.iadd, 1) := by decide +kernel
theorem lw_d484 : decode code 484 = .ok (.iaload, 1) := by decide +kernel
theorem lw_d485 : decode code 485 = .ok (.aload_n 0, 1) := by decide +kernel
theorem lw_d486 : decode code 486 = .ok (.iload_n 3, 1) := by decide +kernel
theorem lw_d487 : decode code 487 = .ok (.iconst 2, 1) := by decide +kernel
theorem lw_d488 : decode code 488 = .ok (.iadd, 1) := by decide +kernel
theorem lw_d489 : decode code 489 = .ok (.iaload, 1) := by decide +kernel
theorem lw_d490 : decode code 490 = .ok (.invokevirtual 64, 3) := by decide +kernel
theorem lw_d493 : decode code 493 = .ok (.if_icmp .eq 407, 3) := by decide +kernel
theorem lw_d496 : decode code 496 = .ok (.iconst 0, 1) := by decide +kernel
theorem lw_d497 : decode code 497 = .ok (.ireturn, 1) := by decide +kernel
theorem lw_d498 : decode code 498 = .ok (.aload_n 1, 1) := by decide +kernel
theorem lw_d499 : decode code 499 = .ok (.aload_n 0, 1) := by decide +kernel
theorem lw_d500 : decode code 500 = .ok (.iload_n 3, 1) := by decide +kernel
theorem lw_d501 : decode code 501 = .ok (.iconst 1, 1) := by decide +kernel
theorem lw_d502 : decode code 502 = .ok (.iadd, 1) := by decide +kernel
theorem lw_d503 : decode code 503 = .ok (.iaload, 1) := by decide +kernel
theorem lw_d504 : decode code 504 = .ok (.aload_n 0, 1) := by decide +kernel
theorem lw_d505 : decode code 505 = .ok (.iload_n 3, 1) := by decide +kernel
theorem lw_d506 : decode code 506 = .ok (.iconst 2, 1) := by decide +kernel
theorem lw_d507 : decode code 507 = .ok (.iadd, 1) := by decide +kernel
theorem lw_d508 : decode code 508 = .ok (.iaload, 1) := by decide +kernel
theorem lw_d509 : decode code 509 = .ok (.invokevirtual 65, 3) := by decide +kernel
theorem lw_d512 : decode code 512 = .ok (.aload_n 2, 1) := by decide +kernel
theorem lw_d513 : decode code 513 = .ok (.aload_n 0, 1) := by decide +kernel
theorem lw_d514 : decode code 514 = .ok (.iload_n 3, 1) := by decide +kernel
theorem lw_d515 : decode code 515 = .ok (.iconst 1, 1) := by decide +kernel
theorem lw_d516 : decode code 516 = .ok (.iadd, 1) := by decide +kernel
theorem lw_d517 : decode code 517 = .ok (.iaload, 1) := by decide +kernel
theorem lw_d518 : decode code 518 = .ok (.aload_n 0, 1) := by decide +kernel
theorem lw_d519 : decode code 519 = .ok (.iload_n 3, 1) := by decide +kernel
theorem lw_d520 : decode code 520 = .ok (.iconst 2, 1) := by decide +kernel
theorem lw_d521 : decode code 521 = .ok (.iadd, 1) := by decide +kernel
theorem lw_d522 : decode code 522 = .ok (.iaload, 1) := by decide +kernel
theorem lw_d523 : decode code 523 = .ok (.invokevirtual 68, 3) := by decide +kernel
theorem lw_d526 : decode code 526 = .ok (.if_icmp .eq 374, 3) := by decide +kernel
theorem lw_d529 : decode code 529 = .ok (.iconst 0, 1) := by decide +kernel
theorem lw_d530 : decode code 530 = .ok (.ireturn, 1) := by decide +kernel
theorem lw_d531 : decode code 531 = .ok (.aload_n 1, 1) := by decide +kernel
theorem lw_d532 : decode code 532 = .ok (.aload_n 0, 1) := by decide +kernel
theorem lw_d533 : decode code 533 = .ok (.iload_n 3, 1) := by decide +kernel
theorem lw_d534 : decode code 534 = .ok (.iconst 1, 1) := by decide +kernel
theorem lw_d535 : decode code 535 = .ok (.iadd, 1) := by decide +kernel
theorem lw_d536 : decode code 536 = .ok (.iaload, 1) := by decide +kernel
theorem lw_d537 : decode code 537 = .ok (.aload_n 0, 1) := by decide +kernel
theorem lw_d538 : decode code 538 = .ok (.iload_n 3, 1) := by decide +kernel
theorem lw_d539 : decode code 539 = .ok (.iconst 2, 1) := by decide +kernel
theorem lw_d540 : decode code 540 = .ok (.iadd, 1) := by decide +kernel
theorem lw_d541 : decode code 541 = .ok (.iaload, 1) := by decide +kernel
theorem lw_d542 : decode code 542 = .ok (.aload_n 0, 1) := by decide +kernel
theorem lw_d543 : decode code 543 = .ok (.iload_n 3, 1) := by decide +kernel
theorem lw_d544 : decode code 544 = .ok (.iconst 3, 1) := by decide +kernel
theorem lw_d545 : decode code 545 = .ok (.iadd, 1) := by decide +kernel
theorem lw_d546 : decode code 546 = .ok (.iaload, 1) := by decide +kernel
theorem lw_d547 : decode code 547 = .ok (.invokevirtual 69, 3) := by decide +kernel
theorem lw_d550 : decode code 550 = .ok (.aload_n 2, 1) := by decide +kernel
theorem lw_d551 : decode code 551 = .ok (.aload_n 0, 1) := by decide +kernel
theorem lw_d552 : decode code 552 = .ok (.iload_n 3, 1) := by decide +kernel
theorem lw_d553 : decode code 553 = .ok (.iconst 1, 1) := by decide +kernel
theorem lw_d554 : decode code 554 = .ok (.iadd, 1) := by decide +kernel
theorem lw_d555 : decode code 555 = .ok (.iaload, 1) := by decide +kernel
theorem lw_d556 : decode code 556 = .ok (.aload_n 0, 1) := by decide +kernel
theorem lw_d557 : decode code 557 = .ok (.iload_n 3, 1) := by decide +kernel
theorem lw_d558 : decode code 558 = .ok (.iconst 2, 1) := by decide +kernel
theorem lw_d559 : decode code 559 = .ok (.iadd, 1) := by decide +kernel
theorem lw_d560 : decode code 560 = .ok (.iaload, 1) := by decide +kernel
theorem lw_d561 : decode code 561 = .ok (.aload_n 0, 1) := by decide +kernel
theorem lw_d562 : decode code 562 = .ok (.iload_n 3, 1) := by decide +kernel
theorem lw_d563 : decode code 563 = .ok (.iconst 3, 1) := by decide +kernel
theorem lw_d564 : decode code 564 = .ok (.iadd, 1) := by decide +kernel
theorem lw_d565 : decode code 565 = .ok (.iaload, 1) := by decide +kernel
theorem lw_d566 : decode code 566 = .ok (.invokevirtual 72, 3) := by decide +kernel
theorem lw_d569 : decode code 569 = .ok (.if_icmp .eq 331, 3) := by decide +kernel
theorem lw_d572 : decode code 572 = .ok (.iconst 0, 1) := by decide +kernel
theorem lw_d573 : decode code 573 = .ok (.ireturn, 1) := by decide +kernel
theorem lw_d574 : decode code 574 = .ok (.aload_n 1, 1) := by decide +kernel
theorem lw_d575 : decode code 575 = .ok (.aload_n 0, 1) := by decide +kernel
theorem lw_d576 : decode code 576 = .ok (.iload_n 3, 1) := by decide +kernel
theorem lw_d577 : decode code 577 = .ok (.iconst 1, 1) := by decide +kernel
theorem lw_d578 : decode code 578 = .ok (.iadd, 1) := by decide +kernel
theorem lw_d579 : decode code 579 = .ok (.iaload, 1) := by decide +kernel
theorem lw_d580 : decode code 580 = .ok (.aload_n 0, 1) := by decide +kernel
theorem lw_d581 : decode code 581 = .ok (.iload_n 3, 1) := by decide +kernel
theorem lw_d582 : decode code 582 = .ok (.iconst 2, 1) := by decide +kernel
theorem lw_d583 : decode code 583 = .ok (.iadd, 1) := by decide +kernel
theorem lw_d584 : decode code 584 = .ok (.iaload, 1) := by decide +kernel
theorem lw_d585 : decode code 585 = .ok (.invokevirtual 73, 3) := by decide +kernel
theorem lw_d588 : decode code 588 = .ok (.aload_n 2, 1) := by decide +kernel
theorem lw_d589 : decode code 589 = .ok (.aload_n 0, 1) := by decide +kernel
theorem lw_d590 : decode code 590 = .ok (.iload_n 3, 1) := by decide +kernel
theorem lw_d591 : decode code 591 = .ok (.iconst 1, 1) := by decide +kernel
theorem lw_d592 : decode code 592 = .ok (.iadd, 1) := by decide +kernel
theorem lw_d593 : decode code 593 = .ok (.iaload, 1) := by decide +kernel
theorem lw_d594 : decode code 594 = .ok (.aload_n 0, 1) := by decide +kernel
theorem lw_d595 : decode code 595 = .ok (.iload_n 3, 1) := by decide +kernel
theorem lw_d596 : decode code 596 = .ok (.iconst 2, 1) := by decide +kernel
theorem lw_d597 : decode code 597 = .ok (.iadd, 1) := by decide +kernel
theorem lw_d598 : decode code 598 = .ok (.iaload, 1) := by decide +kernel
theorem lw_d599 : decode code 599 = .ok (.invokevirtual 76, 3) := by decide +kernel
theorem lw_d602 : decode code 602 = .ok (.if_icmp .eq 298, 3) := by decide +kernel
theorem lw_d605 : decode code 605 = .ok (.iconst 0, 1) := by decide +kernel
theorem lw_d606 : decode code 606 = .ok (.ireturn, 1) := by decide +kernel
theorem lw_d607 : decode code 607 = .ok (.aload_n 1, 1) := by decide +kernel
theorem lw_d608 : decode code 608 = .ok (.aload_n 0, 1) := by decide +kernel
theorem lw_d609 : decode code 609 = .ok (.iload_n 3, 1) := by decide +kernel
theorem lw_d610 : decode code 610 = .ok (.iconst 1, 1) := by decide +kernel
theorem lw_d611 : decode code 611 = .ok (.iadd, 1) := by decide +kernel
theorem lw_d612 : decode code 612 = .ok (.iaload, 1) := by decide +kernel
theorem lw_d613 : decode code 613 = .ok (.invokevirtual 77, 3) := by decide +kernel
theorem lw_d616 : decode code 616 = .ok (.aload_n 2, 1) := by decide +kernel
theorem lw_d617 : decode code 617 = .ok (.aload_n 0, 1) := by decide +kernel
theorem lw_d618 : decode code 618 = .ok (.iload_n 3, 1) := by decide +kernel
theorem lw_d619 : decode code 619 = .ok (.iconst 1, 1) := by decide +kernel
theorem lw_d620 : decode code 620 = .ok (.iadd, 1) := by decide +kernel
theorem lw_d621 : decode code 621 = .ok (.iaload, 1) := by decide +kernel
theorem lw_d622 : decode code 622 = .ok (.invokevirtual 80, 3) := by decide +kernel
theorem lw_d625 : decode code 625 = .ok (.if_icmp .eq 275, 3) := by decide +kernel
theorem lw_d628 : decode code 628 = .ok (.iconst 0, 1) := by decide +kernel
theorem lw_d629 : decode code 629 = .ok (.ireturn, 1) := by decide +kernel
theorem lw_d630 : decode code 630 = .ok (.aload_n 1, 1) := by decide +kernel
theorem lw_d631 : decode code 631 = .ok (.aload_n 0, 1) := by decide +kernel
theorem lw_d632 : decode code 632 = .ok (.iload_n 3, 1) := by decide +kernel
theorem lw_d633 : decode code 633 = .ok (.iconst 1, 1) := by decide +kernel
theorem lw_d634 : decode code 634 = .ok (.iadd, 1) := by decide +kernel
theorem lw_d635 : decode code 635 = .ok (.iaload, 1) := by decide +kernel
theorem lw_d636 : decode code 636 = .ok (.aload_n 0, 1) := by decide +kernel
theorem lw_d637 : decode code 637 = .ok (.iload_n 3, 1) := by decide +kernel
theorem lw_d638 : decode code 638 = .ok (.iconst 2, 1) := by decide +kernel
theorem lw_d639 : decode code 639 = .ok (.iadd, 1) := by decide +kernel
theorem lw_d640 : decode code 640 = .ok (.iaload, 1) := by decide +kernel
theorem lw_d641 : decode code 641 = .ok (.invokevirtual 81, 3) := by decide +kernel
theorem lw_d644 : decode code 644 = .ok (.aload_n 2, 1) := by decide +kernel
theorem lw_d645 : decode code 645 = .ok (.aload_n 0, 1) := by decide +kernel
theorem lw_d646 : decode code 646 = .ok (.iload_n 3, 1) := by decide +kernel
theorem lw_d647 : decode code 647 = .ok (.iconst 1, 1) := by decide +kernel
theorem lw_d648 : decode code 648 = .ok (.iadd, 1) := by decide +kernel
theorem lw_d649 : decode code 649 = .ok (.iaload, 1) := by decide +kernel
theorem lw_d650 : decode code 650 = .ok (.aload_n 0, 1) := by decide +kernel
theorem lw_d651 : decode code 651 = .ok (.iload_n 3, 1) := by decide +kernel
theorem lw_d652 : decode code 652 = .ok (.iconst 2, 1) := by decide +kernel
theorem lw_d653 : decode code 653 = .ok (.iadd, 1) := by decide +kernel
theorem lw_d654 : decode code 654 = .ok (.iaload, 1) := by decide +kernel
theorem lw_d655 : decode code 655 = .ok (.invokevirtual 84, 3) := by decide +kernel
theorem lw_d658 : decode code 658 = .ok (.if_icmp .eq 242, 3) := by decide +kernel
theorem lw_d661 : decode code 661 = .ok (.iconst 0, 1) := by decide +kernel
theorem lw_d662 : decode code 662 = .ok (.ireturn, 1) := by decide +kernel
theorem lw_d663 : decode code 663 = .ok (.aload_n 1, 1) := by decide +kernel
theorem lw_d664 : decode code 664 = .ok (.invokevirtual 85, 3) := by decide +kernel
theorem lw_d667 : decode code 667 = .ok (.aload_n 2, 1) := by decide +kernel
theorem lw_d668 : decode code 668 = .ok (.invokevirtual 88, 3) := by decide +kernel
theorem lw_d671 : decode code 671 = .ok (.if_icmp .eq 229, 3) := by decide +kernel
theorem lw_d674 : decode code 674 = .ok (.iconst 0, 1) := by decide +kernel
theorem lw_d675 : decode code 675 = .ok (.ireturn, 1) := by decide +kernel
theorem lw_d676 : decode code 676 = .ok (.aload_n 1, 1) := by decide +kernel
theorem lw_d677 : decode code 677 = .ok (.aload_n 0, 1) := by decide +kernel
theorem lw_d678 : decode code 678 = .ok (.iload_n 3, 1) := by decide +kernel
theorem lw_d679 : decode code 679 = .ok (.iconst 1, 1) := by decide +kernel
theorem lw_d680 : decode code 680 = .ok (.iadd, 1) := by decide +kernel
theorem lw_d681 : decode code 681 = .ok (.iaload, 1) := by decide +kernel
theorem lw_d682 : decode code 682 = .ok (.aload_n 0, 1) := by decide +kernel
theorem lw_d683 : decode code 683 = .ok (.iload_n 3, 1) := by decide +kernel
theorem lw_d684 : decode code 684 = .ok (.iconst 2, 1) := by decide +kernel
theorem lw_d685 : decode code 685 = .ok (.iadd, 1) := by decide +kernel
theorem lw_d686 : decode code 686 = .ok (.iaload, 1) := by decide +kernel
theorem lw_d687 : decode code 687 = .ok (.aload_n 0, 1) := by decide +kernel
theorem lw_d688 : decode code 688 = .ok (.iload_n 3, 1) := by decide +kernel
theorem lw_d689 : decode code 689 = .ok (.iconst 3, 1) := by decide +kernel
theorem lw_d690 : decode code 690 = .ok (.iadd, 1) := by decide +kernel
theorem lw_d691 : decode code 691 = .ok (.iaload, 1) := by decide +kernel
theorem lw_d692 : decode code 692 = .ok (.invokevirtual 89, 3) := by decide +kernel
theorem lw_d695 : decode code 695 = .ok (.aload_n 2, 1) := by decide +kernel
theorem lw_d696 : decode code 696 = .ok (.aload_n 0, 1) := by decide +kernel
theorem lw_d697 : decode code 697 = .ok (.iload_n 3, 1) := by decide +kernel
theorem lw_d698 : decode code 698 = .ok (.iconst 1, 1) := by decide +kernel
theorem lw_d699 : decode code 699 = .ok (.iadd, 1) := by decide +kernel
theorem lw_d700 : decode code 700 = .ok (.iaload, 1) := by decide +kernel
theorem lw_d701 : decode code 701 = .ok (.aload_n 0, 1) := by decide +kernel
theorem lw_d702 : decode code 702 = .ok (.iload_n 3, 1) := by decide +kernel
theorem lw_d703 : decode code 703 = .ok (.iconst 2, 1) := by decide +kernel
theorem lw_d704 : decode code 704 = .ok (.iadd, 1) := by decide +kernel
theorem lw_d705 : decode code 705 = .ok (.iaload, 1) := by decide +kernel
theorem lw_d706 : decode code 706 = .ok (.aload_n 0, 1) := by decide +kernel
theorem lw_d707 : decode code 707 = .ok (.iload_n 3, 1) := by decide +kernel
theorem lw_d708 : decode code 708 = .ok (.iconst 3, 1) := by decide +kernel
theorem lw_d709 : decode code 709 = .ok (.iadd, 1) := by decide +kernel
theorem lw_d710 : decode code 710 = .ok (.iaload, 1) := by decide +kernel
theorem lw_d711 : decode code 711 = .ok (.invokevirtual 92, 3) := by decide +kernel
theorem lw_d714 : decode code 714 = .ok (.if_icmp .eq 186, 3) := by decide +kernel
theorem lw_d717 : decode code 717 = .ok (.iconst 0, 1) := by decide +kernel
theorem lw_d718 : decode code 718 = .ok (.ireturn, 1) := by decide +kernel
theorem lw_d719 : decode code 719 = .ok (.aload_n 1, 1) := by decide +kernel
theorem lw_d720 : decode code 720 = .ok (.aload_n 0, 1) := by decide +kernel
theorem lw_d721 : decode code 721 = .ok (.iload_n 3, 1) := by decide +kernel
theorem lw_d722 : decode code 722 = .ok (.iconst 1, 1) := by decide +kernel
theorem lw_d723 : decode code 723 = .ok (.iadd, 1) := by decide +kernel
theorem lw_d724 : decode code 724 = .ok (.iaload, 1) := by decide +kernel
theorem lw_d725 : decode code 725 = .ok (.aload_n 0, 1) := by decide +kernel
theorem lw_d726 : decode code 726 = .ok (.iload_n 3, 1) := by decide +kernel
theorem lw_d727 : decode code 727 = .ok (.iconst 2, 1) := by decide +kernel
theorem lw_d728 : decode code 728 = .ok (.iadd, 1) := by decide +kernel
theorem lw_d729 : decode code 729 = .ok (.iaload, 1) := by decide +kernel
theorem lw_d730 : decode code 730 = .ok (.invokevirtual 93, 3) := by decide +kernel
theorem lw_d733 : decode code 733 = .ok (.aload_n 2, 1) := by decide +kernel
theorem lw_d734 : decode code 734 = .ok (.aload_n 0, 1) := by decide +kernel
theorem lw_d735 : decode code 735 = .ok (.iload_n 3, 1) := by decide +kernel
theorem lw_d736 : decode code 736 = .ok (.iconst 1, 1) := by decide +kernel
theorem lw_d737 : decode code 737 = .ok (.iadd, 1) := by decide +kernel
theorem lw_d738 : decode code 738 = .ok (.iaload, 1) := by decide +kernel
theorem lw_d739 : decode code 739 = .ok (.aload_n 0, 1) := by decide +kernel
theorem lw_d740 : decode code 740 = .ok (.iload_n 3, 1) := by decide +kernel
theorem lw_d741 : decode code 741 = .ok (.iconst 2, 1) := by decide +kernel
theorem lw_d742 : decode code 742 = .ok (.iadd, 1) := by decide +kernel
theorem lw_d743 : decode code 743 = .ok (.iaload, 1) := by decide +kernel
theorem lw_d744 : decode code 744 = .ok (.invokevirtual 96, 3) := by decide +kernel
theorem lw_d747 : decode code 747 = .ok (.if_icmp .eq 153, 3) := by decide +kernel
theorem lw_d750 : decode code 750 = .ok (.iconst 0, 1) := by decide +kernel
theorem lw_d751 : decode code 751 = .ok (.ireturn, 1) := by decide +kernel
theorem lw_d752 : decode code 752 = .ok (.aload_n 1, 1) := by decide +kernel
theorem lw_d753 : decode code 753 = .ok (.aload_n 0, 1) := by decide +kernel
theorem lw_d754 : decode code 754 = .ok (.iload_n 3, 1) := by decide +kernel
theorem lw_d755 : decode code 755 = .ok (.iconst 1, 1) := by decide +kernel
theorem lw_d756 : decode code 756 = .ok (.iadd, 1) := by decide +kernel
theorem lw_d757 : decode code 757 = .ok (.iaload, 1) := by decide +kernel
theorem lw_d758 : decode code 758 = .ok (.invokevirtual 97, 3) := by decide +kernel
theorem lw_d761 : decode code 761 = .ok (.aload_n 2, 1) := by decide +kernel
theorem lw_d762 : decode code 762 = .ok (.aload_n 0, 1) := by decide +kernel
theorem lw_d763 : decode code 763 = .ok (.iload_n 3, 1) := by decide +kernel
theorem lw_d764 : decode code 764 = .ok (.iconst 1, 1) := by decide +kernel
theorem lw_d765 : decode code 765 = .ok (.iadd, 1) := by decide +kernel
theorem lw_d766 : decode code 766 = .ok (.iaload, 1) := by decide +kernel
theorem lw_d767 : decode code 767 = .ok (.invokevirtual 100, 3) := by decide +kernel
theorem lw_d770 : decode code 770 = .ok (.if_icmp .eq 130, 3) := by decide +kernel
theorem lw_d773 : decode code 773 = .ok (.iconst 0, 1) := by decide +kernel
theorem lw_d774 : decode code 774 = .ok (.ireturn, 1) := by decide +kernel
theorem lw_d775 : decode code 775 = .ok (.aload_n 1, 1) := by decide +kernel
theorem lw_d776 : decode code 776 = .ok (.aload_n 0, 1) := by decide +kernel
theorem lw_d777 : decode code 777 = .ok (.iload_n 3, 1) := by decide +kernel
theorem lw_d778 : decode code 778 = .ok (.iconst 1, 1) := by decide +kernel
theorem lw_d779 : decode code 779 = .ok (.iadd, 1) := by decide +kernel
theorem lw_d780 : decode code 780 = .ok (.iaload, 1) := by decide +kernel
theorem lw_d781 : decode code 781 = .ok (.invokevirtual 101, 3) := by decide +kernel
theorem lw_d784 : decode code 784 = .ok (.aload_n 2, 1) := by decide +kernel
theorem lw_d785 : decode code 785 = .ok (.aload_n 0, 1) := by decide +kernel
theorem lw_d786 : decode code 786 = .ok (.iload_n 3, 1) := by decide +kernel
theorem lw_d787 : decode code 787 = .ok (.iconst 1, 1) := by decide +kernel
theorem lw_d788 : decode code 788 = .ok (.iadd, 1) := by decide +kernel
theorem lw_d789 : decode code 789 = .ok (.iaload, 1) := by decide +kernel
theorem lw_d790 : decode code 790 = .ok (.invokevirtual 104, 3) := by decide +kernel
theorem lw_d793 : decode code 793 = .ok (.if_icmp .eq 107, 3) := by decide +kernel
theorem lw_d796 : decode code 796 = .ok (.iconst 0, 1) := by decide +kernel
theorem lw_d797 : decode code 797 = .ok (.ireturn, 1) := by decide +kernel
theorem lw_d798 : decode code 798 = .ok (.aload_n 1, 1) := by decide +kernel
theorem lw_d799 : decode code 799 = .ok (.aload_n 0, 1) := by decide +kernel
theorem lw_d800 : decode code 800 = .ok (.iload_n 3, 1) := by decide +kernel
theorem lw_d801 : decode code 801 = .ok (.iconst 1, 1) := by decide +kernel
theorem lw_d802 : decode code 802 = .ok (.iadd, 1) := by decide +kernel
theorem lw_d803 : decode code 803 = .ok (.iaload, 1) := by decide +kernel
theorem lw_d804 : decode code 804 = .ok (.aload_n 0, 1) := by decide +kernel
theorem lw_d805 : decode code 805 = .ok (.iload_n 3, 1) := by decide +kernel
theorem lw_d806 : decode code 806 = .ok (.iconst 2, 1) := by decide +kernel
theorem lw_d807 : decode code 807 = .ok (.iadd, 1) := by decide +kernel
theorem lw_d808 : decode code 808 = .ok (.iaload, 1) := by decide +kernel
theorem lw_d809 : decode code 809 = .ok (.aload_n 0, 1) := by decide +kernel
theorem lw_d810 : decode code 810 = .ok (.iload_n 3, 1) := by decide +kernel
theorem lw_d811 : decode code 811 = .ok (.iconst 3, 1) := by decide +kernel
theorem lw_d812 : decode code 812 = .ok (.iadd, 1) := by decide +kernel
theorem lw_d813 : decode code 813 = .ok (.iaload, 1) := by decide +kernel
theorem lw_d814 : decode code 814 = .ok (.aload_n 0, 1) := by decide +kernel
theorem lw_d815 : decode code 815 = .ok (.iload_n 3, 1) := by decide +kernel
theorem lw_d816 : decode code 816 = .ok (.iconst 4, 1) := by decide +kernel
theorem lw_d817 : decode code 817 = .ok (.iadd, 1) := by decide +kernel
theorem lw_d818 : decode code 818 = .ok (.iaload, 1) := by decide +kernel
theorem lw_d819 : decode code 819 = .ok (.invokevirtual 105, 3) := by decide +kernel
theorem lw_d822 : decode code 822 = .ok (.aload_n 2, 1) := by decide +kernel
theorem lw_d823 : decode code 823 = .ok (.aload_n 0, 1) := by decide +kernel
theorem lw_d824 : decode code 824 = .ok (.iload_n 3, 1) := by decide +kernel
theorem lw_d825 : decode code 825 = .ok (.iconst 1, 1) := by decide +kernel
theorem lw_d826 : decode code 826 = .ok (.iadd, 1) := by decide +kernel
theorem lw_d827 : decode code 827 = .ok (.iaload, 1) := by decide +kernel
theorem lw_d828 : decode code 828 = .ok (.aload_n 0, 1) := by decide +kernel
theorem lw_d829 : decode code 829 = .ok (.iload_n 3, 1) := by decide +kernel
theorem lw_d830 : decode code 830 = .ok (.iconst 2, 1) := by decide +kernel
theorem lw_d831 : decode code 831 = .ok (.iadd, 1) := by decide +kernel
theorem lw_d832 : decode code 832 = .ok (.iaload, 1) := by decide +kernel
theorem lw_d833 : decode code 833 = .ok (.aload_n 0, 1) := by decide +kernel
theorem lw_d834 : decode code 834 = .ok (.iload_n 3, 1) := by decide +kernel
theorem lw_d835 : decode code 835 = .ok (.iconst 3, 1) := by decide +kernel
theorem lw_d836 : decode code 836 = .ok (.iadd, 1) := by decide +kernel
theorem lw_d837 : decode code 837 = .ok (.iaload, 1) := by decide +kernel
theorem lw_d838 : decode code 838 = .ok (.aload_n 0, 1) := by decide +kernel
theorem lw_d839 : decode code 839 = .ok (.iload_n 3, 1) := by decide +kernel
theorem lw_d840 : decode code 840 = .ok (.iconst 4, 1) := by decide +kernel
theorem lw_d841 : decode code 841 = .ok (.iadd, 1) := by decide +kernel
theorem lw_d842 : decode code 842 = .ok (.iaload, 1) := by decide +kernel
theorem lw_d843 : decode code 843 = .ok (.invokevirtual 109, 3) := by decide +kernel
theorem lw_d846 : decode code 846 = .ok (.if_icmp .eq 54, 3) := by decide +kernel
theorem lw_d849 : decode code 849 = .ok (.iconst 0, 1) := by decide +kernel
theorem lw_d850 : decode code 850 = .ok (.ireturn, 1) := by decide +kernel
theorem lw_d851 : decode code 851 = .ok (.aload_n 1, 1) := by decide +kernel
theorem lw_d852 : decode code 852 = .ok (.invokevirtual 110, 3) := by decide +kernel
theorem lw_d855 : decode code 855 = .ok (.aload_n 2, 1) := by decide +kernel
theorem lw_d856 : decode code 856 = .ok (.invokevirtual 113, 3) := by decide +kernel
theorem lw_d859 : decode code 859 = .ok (.if_icmp .eq 41, 3) := by decide +kernel
theorem lw_d862 : decode code 862 = .ok (.iconst 0, 1) := by decide +kernel
theorem lw_d863 : decode code 863 = .ok (.ireturn, 1) := by decide +kernel
theorem lw_d864 : decode code 864 = .ok (.aload_n 1, 1) := by decide +kernel
theorem lw_d865 : decode code 865 = .ok (.invokevirtual 114, 3) := by decide +kernel
theorem lw_d868 : decode code 868 = .ok (.aload_n 2, 1) := by decide +kernel
theorem lw_d869 : decode code 869 = .ok (.invokevirtual 117, 3) := by decide +kernel
theorem lw_d872 : decode code 872 = .ok (.if_icmp .eq 28, 3) := by decide +kernel
theorem lw_d875 : decode code 875 = .ok (.iconst 0, 1) := by decide +kernel
theorem lw_d876 : decode code 876 = .ok (.ireturn, 1) := by decide +kernel
theorem lw_d877 : decode code 877 = .ok (.aload_n 1, 1) := by decide +kernel
theorem lw_d878 : decode code 878 = .ok (.aload_n 0, 1) := by decide +kernel
theorem lw_d879 : decode code 879 = .ok (.iload_n 3, 1) := by decide +kernel
theorem lw_d880 : decode code 880 = .ok (.iconst 1, 1) := by decide +kernel
theorem lw_d881 : decode code 881 = .ok (.iadd, 1) := by decide +kernel
theorem lw_d882 : decode code 882 = .ok (.iaload, 1) := by decide +kernel
theorem lw_d883 : decode code 883 = .ok (.invokevirtual 118, 3) := by decide +kernel
theorem lw_d886 : decode code 886 = .ok (.aload_n 2, 1) := by decide +kernel
theorem lw_d887 : decode code 887 = .ok (.aload_n 0, 1) := by decide +kernel
theorem lw_d888 : decode code 888 = .ok (.iload_n 3, 1) := by decide +kernel
theorem lw_d889 : decode code 889 = .ok (.iconst 1, 1) := by decide +kernel
theorem lw_d890 : decode code 890 = .ok (.iadd, 1) := by decide +kernel
theorem lw_d891 : decode code 891 = .ok (.iaload, 1) := by decide +kernel
theorem lw_d892 : decode code 892 = .ok (.invokevirtual 121, 3) := by decide +kernel
theorem lw_d895 : decode code 895 = .ok (.if_icmp .eq 5, 3) := by decide +kernel
theorem lw_d898 : decode code 898 = .ok (.iconst 0, 1) := by decide +kernel
theorem lw_d899 : decode code 899 = .ok (.ireturn, 1) := by decide +kernel
theorem lw_d900 : decode code 900 = .ok (.iinc 3 5, 3) := by decide +kernel
theorem lw_d903 : decode code 903 = .ok (.goto (-885), 3) := by decide +kernel
theorem lw_d906 : decode code 906 = .ok (.iconst 1, 1) := by decide +kernel
theorem lw_d907 : decode code 907 = .ok (.ireturn, 1) := by decide +kernel
