/-! the code of the methods: printed by wip/whole/gen/gen_code.py -/
def kX12_init (pc : Nat) : Option Ent := bif Nat.ble 404 pc then none else
 bif Nat.ble 196 pc then
  bif Nat.ble 295 pc then
   bif Nat.ble 350 pc then
    bif Nat.ble 377 pc then
     bif Nat.ble 390 pc then
      bif Nat.ble 398 pc then
       bif Nat.ble 400 pc then
        bif Nat.ble 403 pc then
         bif Nat.beq pc 403 then some (.return_, 1, [], .inl 0, []) else none
        else
         bif Nat.beq pc 400 then some (.putfield 160, 3, [12, 790, 0], .inl 0, []) else none
       else
        bif Nat.ble 399 pc then
         bif Nat.beq pc 399 then some (.iconst 0, 1, [], .inl (0), []) else none
        else
         bif Nat.beq pc 398 then some (.aload_n 0, 1, [], .inl 0, []) else none
      else
       bif Nat.ble 393 pc then
        bif Nat.ble 395 pc then
         bif Nat.beq pc 395 then some (.putfield 157, 3, [12, 829, 2], .inl 0, []) else none
        else
         bif Nat.beq pc 393 then some (.newarray .long, 2, [21], .inl 0, []) else none
       else
        bif Nat.beq pc 390 then some (.sipush 384, 3, [], .inl (384), []) else none
     else
      bif Nat.ble 384 pc then
       bif Nat.ble 386 pc then
        bif Nat.ble 389 pc then
         bif Nat.beq pc 389 then some (.aload_n 0, 1, [], .inl 0, []) else none
        else
         bif Nat.beq pc 386 then some (.putfield 154, 3, [12, 827, 2], .inl 0, []) else none
       else
        bif Nat.beq pc 384 then some (.newarray .boolean, 2, [22], .inl 0, []) else none
      else
       bif Nat.ble 380 pc then
        bif Nat.ble 381 pc then
         bif Nat.beq pc 381 then some (.sipush 164, 3, [], .inl (164), []) else none
        else
         bif Nat.beq pc 380 then some (.aload_n 0, 1, [], .inl 0, []) else none
       else
        bif Nat.beq pc 377 then some (.putfield 151, 3, [12, 826, 2], .inl 0, []) else none
    else
     bif Nat.ble 363 pc then
      bif Nat.ble 371 pc then
       bif Nat.ble 372 pc then
        bif Nat.ble 375 pc then
         bif Nat.beq pc 375 then some (.newarray .int, 2, [20], .inl 0, []) else none
        else
         bif Nat.beq pc 372 then some (.sipush 170, 3, [], .inl (170), []) else none
       else
        bif Nat.beq pc 371 then some (.aload_n 0, 1, [], .inl 0, []) else none
      else
       bif Nat.ble 366 pc then
        bif Nat.ble 368 pc then
         bif Nat.beq pc 368 then some (.putfield 148, 3, [12, 825, 2], .inl 0, []) else none
        else
         bif Nat.beq pc 366 then some (.newarray .int, 2, [20], .inl 0, []) else none
       else
        bif Nat.beq pc 363 then some (.sipush 170, 3, [], .inl (170), []) else none
     else
      bif Nat.ble 357 pc then
       bif Nat.ble 359 pc then
        bif Nat.ble 362 pc then
         bif Nat.beq pc 362 then some (.aload_n 0, 1, [], .inl 0, []) else none
        else
         bif Nat.beq pc 359 then some (.putfield 145, 3, [12, 824, 2], .inl 0, []) else none
       else
        bif Nat.beq pc 357 then some (.newarray .int, 2, [20], .inl 0, []) else none
      else
       bif Nat.ble 353 pc then
        bif Nat.ble 354 pc then
         bif Nat.beq pc 354 then some (.sipush 384, 3, [], .inl (384), []) else none
        else
         bif Nat.beq pc 353 then some (.aload_n 0, 1, [], .inl 0, []) else none
       else
        bif Nat.beq pc 350 then some (.putfield 142, 3, [12, 823, 2], .inl 0, []) else none
   else
    bif Nat.ble 322 pc then
     bif Nat.ble 336 pc then
      bif Nat.ble 342 pc then
       bif Nat.ble 346 pc then
        bif Nat.ble 348 pc then
         bif Nat.beq pc 348 then some (.newarray .int, 2, [20], .inl 0, []) else none
        else
         bif Nat.beq pc 346 then some (.bipush 64, 2, [], .inl (64), []) else none
       else
        bif Nat.ble 345 pc then
         bif Nat.beq pc 345 then some (.aload_n 0, 1, [], .inl 0, []) else none
        else
         bif Nat.beq pc 342 then some (.putfield 139, 3, [12, 822, 2], .inl 0, []) else none
      else
       bif Nat.ble 337 pc then
        bif Nat.ble 340 pc then
         bif Nat.beq pc 340 then some (.newarray .int, 2, [20], .inl 0, []) else none
        else
         bif Nat.beq pc 337 then some (.sipush 384, 3, [], .inl (384), []) else none
       else
        bif Nat.beq pc 336 then some (.aload_n 0, 1, [], .inl 0, []) else none
     else
      bif Nat.ble 328 pc then
       bif Nat.ble 331 pc then
        bif Nat.ble 333 pc then
         bif Nat.beq pc 333 then some (.putfield 136, 3, [12, 821, 2], .inl 0, []) else none
        else
         bif Nat.beq pc 331 then some (.newarray .long, 2, [21], .inl 0, []) else none
       else
        bif Nat.beq pc 328 then some (.sipush 6144, 3, [], .inl (6144), []) else none
      else
       bif Nat.ble 324 pc then
        bif Nat.ble 327 pc then
         bif Nat.beq pc 327 then some (.aload_n 0, 1, [], .inl 0, []) else none
        else
         bif Nat.beq pc 324 then some (.putfield 133, 3, [12, 820, 2], .inl 0, []) else none
       else
        bif Nat.beq pc 322 then some (.newarray .long, 2, [21], .inl 0, []) else none
    else
     bif Nat.ble 309 pc then
      bif Nat.ble 315 pc then
       bif Nat.ble 318 pc then
        bif Nat.ble 319 pc then
         bif Nat.beq pc 319 then some (.sipush 384, 3, [], .inl (384), []) else none
        else
         bif Nat.beq pc 318 then some (.aload_n 0, 1, [], .inl 0, []) else none
       else
        bif Nat.beq pc 315 then some (.putfield 130, 3, [12, 819, 2], .inl 0, []) else none
      else
       bif Nat.ble 310 pc then
        bif Nat.ble 313 pc then
         bif Nat.beq pc 313 then some (.newarray .int, 2, [20], .inl 0, []) else none
        else
         bif Nat.beq pc 310 then some (.sipush 384, 3, [], .inl (384), []) else none
       else
        bif Nat.beq pc 309 then some (.aload_n 0, 1, [], .inl 0, []) else none
     else
      bif Nat.ble 301 pc then
       bif Nat.ble 304 pc then
        bif Nat.ble 306 pc then
         bif Nat.beq pc 306 then some (.putfield 127, 3, [12, 818, 2], .inl 0, []) else none
        else
         bif Nat.beq pc 304 then some (.newarray .int, 2, [20], .inl 0, []) else none
       else
        bif Nat.beq pc 301 then some (.sipush 384, 3, [], .inl (384), []) else none
      else
       bif Nat.ble 297 pc then
        bif Nat.ble 300 pc then
         bif Nat.beq pc 300 then some (.aload_n 0, 1, [], .inl 0, []) else none
        else
         bif Nat.beq pc 297 then some (.putfield 124, 3, [12, 817, 2], .inl 0, []) else none
       else
        bif Nat.beq pc 295 then some (.newarray .long, 2, [21], .inl 0, []) else none
  else
   bif Nat.ble 245 pc then
    bif Nat.ble 268 pc then
     bif Nat.ble 280 pc then
      bif Nat.ble 286 pc then
       bif Nat.ble 291 pc then
        bif Nat.ble 292 pc then
         bif Nat.beq pc 292 then some (.sipush 384, 3, [], .inl (384), []) else none
        else
         bif Nat.beq pc 291 then some (.aload_n 0, 1, [], .inl 0, []) else none
       else
        bif Nat.ble 288 pc then
         bif Nat.beq pc 288 then some (.putfield 121, 3, [12, 816, 2], .inl 0, []) else none
        else
         bif Nat.beq pc 286 then some (.newarray .int, 2, [20], .inl 0, []) else none
      else
       bif Nat.ble 283 pc then
        bif Nat.ble 284 pc then
         bif Nat.beq pc 284 then some (.bipush 64, 2, [], .inl (64), []) else none
        else
         bif Nat.beq pc 283 then some (.aload_n 0, 1, [], .inl 0, []) else none
       else
        bif Nat.beq pc 280 then some (.putfield 118, 3, [12, 815, 2], .inl 0, []) else none
     else
      bif Nat.ble 275 pc then
       bif Nat.ble 276 pc then
        bif Nat.ble 278 pc then
         bif Nat.beq pc 278 then some (.newarray .int, 2, [20], .inl 0, []) else none
        else
         bif Nat.beq pc 276 then some (.bipush 64, 2, [], .inl (64), []) else none
       else
        bif Nat.beq pc 275 then some (.aload_n 0, 1, [], .inl 0, []) else none
      else
       bif Nat.ble 270 pc then
        bif Nat.ble 272 pc then
         bif Nat.beq pc 272 then some (.putfield 115, 3, [12, 814, 2], .inl 0, []) else none
        else
         bif Nat.beq pc 270 then some (.newarray .int, 2, [20], .inl 0, []) else none
       else
        bif Nat.beq pc 268 then some (.bipush 64, 2, [], .inl (64), []) else none
    else
     bif Nat.ble 255 pc then
      bif Nat.ble 262 pc then
       bif Nat.ble 264 pc then
        bif Nat.ble 267 pc then
         bif Nat.beq pc 267 then some (.aload_n 0, 1, [], .inl 0, []) else none
        else
         bif Nat.beq pc 264 then some (.putfield 112, 3, [12, 812, 2], .inl 0, []) else none
       else
        bif Nat.beq pc 262 then some (.newarray .int, 2, [20], .inl 0, []) else none
      else
       bif Nat.ble 258 pc then
        bif Nat.ble 259 pc then
         bif Nat.beq pc 259 then some (.sipush 164, 3, [], .inl (164), []) else none
        else
         bif Nat.beq pc 258 then some (.aload_n 0, 1, [], .inl 0, []) else none
       else
        bif Nat.beq pc 255 then some (.putfield 109, 3, [12, 811, 0], .inl 0, []) else none
     else
      bif Nat.ble 250 pc then
       bif Nat.ble 253 pc then
        bif Nat.ble 254 pc then
         bif Nat.beq pc 254 then some (.iconst (-1), 1, [], .inl (-1), []) else none
        else
         bif Nat.beq pc 253 then some (.aload_n 0, 1, [], .inl 0, []) else none
       else
        bif Nat.beq pc 250 then some (.putfield 106, 3, [12, 810, 0], .inl 0, []) else none
      else
       bif Nat.ble 248 pc then
        bif Nat.ble 249 pc then
         bif Nat.beq pc 249 then some (.iconst (-1), 1, [], .inl (-1), []) else none
        else
         bif Nat.beq pc 248 then some (.aload_n 0, 1, [], .inl 0, []) else none
       else
        bif Nat.beq pc 245 then some (.putfield 103, 3, [12, 809, 0], .inl 0, []) else none
   else
    bif Nat.ble 223 pc then
     bif Nat.ble 235 pc then
      bif Nat.ble 240 pc then
       bif Nat.ble 243 pc then
        bif Nat.ble 244 pc then
         bif Nat.beq pc 244 then some (.iconst (-1), 1, [], .inl (-1), []) else none
        else
         bif Nat.beq pc 243 then some (.aload_n 0, 1, [], .inl 0, []) else none
       else
        bif Nat.beq pc 240 then some (.putfield 99, 3, [12, 808, 0], .inl 0, []) else none
      else
       bif Nat.ble 238 pc then
        bif Nat.ble 239 pc then
         bif Nat.beq pc 239 then some (.iconst (-1), 1, [], .inl (-1), []) else none
        else
         bif Nat.beq pc 238 then some (.aload_n 0, 1, [], .inl 0, []) else none
       else
        bif Nat.beq pc 235 then some (.putfield 96, 3, [12, 806, 2], .inl 0, []) else none
     else
      bif Nat.ble 230 pc then
       bif Nat.ble 231 pc then
        bif Nat.ble 233 pc then
         bif Nat.beq pc 233 then some (.newarray .long, 2, [21], .inl 0, []) else none
        else
         bif Nat.beq pc 231 then some (.bipush 6, 2, [], .inl (6), []) else none
       else
        bif Nat.beq pc 230 then some (.aload_n 0, 1, [], .inl 0, []) else none
      else
       bif Nat.ble 225 pc then
        bif Nat.ble 227 pc then
         bif Nat.beq pc 227 then some (.putfield 93, 3, [12, 805, 2], .inl 0, []) else none
        else
         bif Nat.beq pc 225 then some (.newarray .long, 2, [21], .inl 0, []) else none
       else
        bif Nat.beq pc 223 then some (.bipush 6, 2, [], .inl (6), []) else none
    else
     bif Nat.ble 210 pc then
      bif Nat.ble 217 pc then
       bif Nat.ble 219 pc then
        bif Nat.ble 222 pc then
         bif Nat.beq pc 222 then some (.aload_n 0, 1, [], .inl 0, []) else none
        else
         bif Nat.beq pc 219 then some (.putfield 90, 3, [12, 804, 2], .inl 0, []) else none
       else
        bif Nat.beq pc 217 then some (.newarray .int, 2, [20], .inl 0, []) else none
      else
       bif Nat.ble 213 pc then
        bif Nat.ble 214 pc then
         bif Nat.beq pc 214 then some (.sipush 164, 3, [], .inl (164), []) else none
        else
         bif Nat.beq pc 213 then some (.aload_n 0, 1, [], .inl 0, []) else none
       else
        bif Nat.beq pc 210 then some (.putfield 87, 3, [12, 803, 2], .inl 0, []) else none
     else
      bif Nat.ble 204 pc then
       bif Nat.ble 205 pc then
        bif Nat.ble 208 pc then
         bif Nat.beq pc 208 then some (.newarray .long, 2, [21], .inl 0, []) else none
        else
         bif Nat.beq pc 205 then some (.sipush 984, 3, [], .inl (984), []) else none
       else
        bif Nat.beq pc 204 then some (.aload_n 0, 1, [], .inl 0, []) else none
      else
       bif Nat.ble 199 pc then
        bif Nat.ble 201 pc then
         bif Nat.beq pc 201 then some (.putfield 84, 3, [12, 802, 2], .inl 0, []) else none
        else
         bif Nat.beq pc 199 then some (.newarray .int, 2, [20], .inl 0, []) else none
       else
        bif Nat.beq pc 196 then some (.sipush 164, 3, [], .inl (164), []) else none
 else
  bif Nat.ble 95 pc then
   bif Nat.ble 145 pc then
    bif Nat.ble 168 pc then
     bif Nat.ble 181 pc then
      bif Nat.ble 187 pc then
       bif Nat.ble 192 pc then
        bif Nat.ble 195 pc then
         bif Nat.beq pc 195 then some (.aload_n 0, 1, [], .inl 0, []) else none
        else
         bif Nat.beq pc 192 then some (.putfield 81, 3, [12, 801, 2], .inl 0, []) else none
       else
        bif Nat.ble 190 pc then
         bif Nat.beq pc 190 then some (.newarray .long, 2, [21], .inl 0, []) else none
        else
         bif Nat.beq pc 187 then some (.sipush 7040, 3, [], .inl (7040), []) else none
      else
       bif Nat.ble 183 pc then
        bif Nat.ble 186 pc then
         bif Nat.beq pc 186 then some (.aload_n 0, 1, [], .inl 0, []) else none
        else
         bif Nat.beq pc 183 then some (.putfield 78, 3, [12, 800, 2], .inl 0, []) else none
       else
        bif Nat.beq pc 181 then some (.newarray .int, 2, [20], .inl 0, []) else none
     else
      bif Nat.ble 174 pc then
       bif Nat.ble 177 pc then
        bif Nat.ble 178 pc then
         bif Nat.beq pc 178 then some (.sipush 440, 3, [], .inl (440), []) else none
        else
         bif Nat.beq pc 177 then some (.aload_n 0, 1, [], .inl 0, []) else none
       else
        bif Nat.beq pc 174 then some (.putfield 75, 3, [12, 799, 2], .inl 0, []) else none
      else
       bif Nat.ble 169 pc then
        bif Nat.ble 172 pc then
         bif Nat.beq pc 172 then some (.newarray .int, 2, [20], .inl 0, []) else none
        else
         bif Nat.beq pc 169 then some (.sipush 440, 3, [], .inl (440), []) else none
       else
        bif Nat.beq pc 168 then some (.aload_n 0, 1, [], .inl 0, []) else none
    else
     bif Nat.ble 155 pc then
      bif Nat.ble 161 pc then
       bif Nat.ble 163 pc then
        bif Nat.ble 165 pc then
         bif Nat.beq pc 165 then some (.putfield 72, 3, [12, 797, 2], .inl 0, []) else none
        else
         bif Nat.beq pc 163 then some (.newarray .int, 2, [20], .inl 0, []) else none
       else
        bif Nat.beq pc 161 then some (.bipush 10, 2, [], .inl (10), []) else none
      else
       bif Nat.ble 157 pc then
        bif Nat.ble 160 pc then
         bif Nat.beq pc 160 then some (.aload_n 0, 1, [], .inl 0, []) else none
        else
         bif Nat.beq pc 157 then some (.putfield 69, 3, [12, 796, 2], .inl 0, []) else none
       else
        bif Nat.beq pc 155 then some (.newarray .boolean, 2, [22], .inl 0, []) else none
     else
      bif Nat.ble 150 pc then
       bif Nat.ble 153 pc then
        bif Nat.ble 154 pc then
         bif Nat.beq pc 154 then some (.iconst 4, 1, [], .inl (4), []) else none
        else
         bif Nat.beq pc 153 then some (.aload_n 0, 1, [], .inl 0, []) else none
       else
        bif Nat.beq pc 150 then some (.putfield 66, 3, [12, 795, 2], .inl 0, []) else none
      else
       bif Nat.ble 146 pc then
        bif Nat.ble 148 pc then
         bif Nat.beq pc 148 then some (.newarray .boolean, 2, [22], .inl 0, []) else none
        else
         bif Nat.beq pc 146 then some (.bipush 14, 2, [], .inl (14), []) else none
       else
        bif Nat.beq pc 145 then some (.aload_n 0, 1, [], .inl 0, []) else none
   else
    bif Nat.ble 118 pc then
     bif Nat.ble 130 pc then
      bif Nat.ble 137 pc then
       bif Nat.ble 140 pc then
        bif Nat.ble 142 pc then
         bif Nat.beq pc 142 then some (.putfield 63, 3, [12, 789, 2], .inl 0, []) else none
        else
         bif Nat.beq pc 140 then some (.newarray .int, 2, [20], .inl 0, []) else none
       else
        bif Nat.ble 138 pc then
         bif Nat.beq pc 138 then some (.bipush 40, 2, [], .inl (40), []) else none
        else
         bif Nat.beq pc 137 then some (.aload_n 0, 1, [], .inl 0, []) else none
      else
       bif Nat.ble 132 pc then
        bif Nat.ble 134 pc then
         bif Nat.beq pc 134 then some (.putfield 60, 3, [12, 787, 2], .inl 0, []) else none
        else
         bif Nat.beq pc 132 then some (.newarray .int, 2, [20], .inl 0, []) else none
       else
        bif Nat.beq pc 130 then some (.bipush 6, 2, [], .inl (6), []) else none
     else
      bif Nat.ble 124 pc then
       bif Nat.ble 126 pc then
        bif Nat.ble 129 pc then
         bif Nat.beq pc 129 then some (.aload_n 0, 1, [], .inl 0, []) else none
        else
         bif Nat.beq pc 126 then some (.putfield 57, 3, [12, 786, 2], .inl 0, []) else none
       else
        bif Nat.beq pc 124 then some (.newarray .int, 2, [20], .inl 0, []) else none
      else
       bif Nat.ble 121 pc then
        bif Nat.ble 122 pc then
         bif Nat.beq pc 122 then some (.bipush 12, 2, [], .inl (12), []) else none
        else
         bif Nat.beq pc 121 then some (.aload_n 0, 1, [], .inl 0, []) else none
       else
        bif Nat.beq pc 118 then some (.putfield 54, 3, [12, 785, 2], .inl 0, []) else none
    else
     bif Nat.ble 107 pc then
      bif Nat.ble 114 pc then
       bif Nat.ble 115 pc then
        bif Nat.ble 116 pc then
         bif Nat.beq pc 116 then some (.newarray .int, 2, [20], .inl 0, []) else none
        else
         bif Nat.beq pc 115 then some (.iconst 3, 1, [], .inl (3), []) else none
       else
        bif Nat.beq pc 114 then some (.aload_n 0, 1, [], .inl 0, []) else none
      else
       bif Nat.ble 109 pc then
        bif Nat.ble 111 pc then
         bif Nat.beq pc 111 then some (.putfield 51, 3, [12, 783, 2], .inl 0, []) else none
        else
         bif Nat.beq pc 109 then some (.newarray .long, 2, [21], .inl 0, []) else none
       else
        bif Nat.beq pc 107 then some (.bipush 24, 2, [], .inl (24), []) else none
     else
      bif Nat.ble 101 pc then
       bif Nat.ble 103 pc then
        bif Nat.ble 106 pc then
         bif Nat.beq pc 106 then some (.aload_n 0, 1, [], .inl 0, []) else none
        else
         bif Nat.beq pc 103 then some (.putfield 48, 3, [12, 782, 2], .inl 0, []) else none
       else
        bif Nat.beq pc 101 then some (.newarray .long, 2, [21], .inl 0, []) else none
      else
       bif Nat.ble 98 pc then
        bif Nat.ble 99 pc then
         bif Nat.beq pc 99 then some (.bipush 24, 2, [], .inl (24), []) else none
        else
         bif Nat.beq pc 98 then some (.aload_n 0, 1, [], .inl 0, []) else none
       else
        bif Nat.beq pc 95 then some (.putfield 45, 3, [12, 781, 2], .inl 0, []) else none
  else
   bif Nat.ble 45 pc then
    bif Nat.ble 69 pc then
     bif Nat.ble 82 pc then
      bif Nat.ble 87 pc then
       bif Nat.ble 91 pc then
        bif Nat.ble 93 pc then
         bif Nat.beq pc 93 then some (.newarray .int, 2, [20], .inl 0, []) else none
        else
         bif Nat.beq pc 91 then some (.bipush 24, 2, [], .inl (24), []) else none
       else
        bif Nat.ble 90 pc then
         bif Nat.beq pc 90 then some (.aload_n 0, 1, [], .inl 0, []) else none
        else
         bif Nat.beq pc 87 then some (.putfield 42, 3, [12, 780, 2], .inl 0, []) else none
      else
       bif Nat.ble 83 pc then
        bif Nat.ble 85 pc then
         bif Nat.beq pc 85 then some (.newarray .int, 2, [20], .inl 0, []) else none
        else
         bif Nat.beq pc 83 then some (.bipush 24, 2, [], .inl (24), []) else none
       else
        bif Nat.beq pc 82 then some (.aload_n 0, 1, [], .inl 0, []) else none
     else
      bif Nat.ble 75 pc then
       bif Nat.ble 77 pc then
        bif Nat.ble 79 pc then
         bif Nat.beq pc 79 then some (.putfield 39, 3, [12, 779, 2], .inl 0, []) else none
        else
         bif Nat.beq pc 77 then some (.newarray .int, 2, [20], .inl 0, []) else none
       else
        bif Nat.beq pc 75 then some (.bipush 6, 2, [], .inl (6), []) else none
      else
       bif Nat.ble 71 pc then
        bif Nat.ble 74 pc then
         bif Nat.beq pc 74 then some (.aload_n 0, 1, [], .inl 0, []) else none
        else
         bif Nat.beq pc 71 then some (.putfield 36, 3, [12, 778, 2], .inl 0, []) else none
       else
        bif Nat.beq pc 69 then some (.newarray .long, 2, [21], .inl 0, []) else none
    else
     bif Nat.ble 58 pc then
      bif Nat.ble 63 pc then
       bif Nat.ble 66 pc then
        bif Nat.ble 67 pc then
         bif Nat.beq pc 67 then some (.bipush 36, 2, [], .inl (36), []) else none
        else
         bif Nat.beq pc 66 then some (.aload_n 0, 1, [], .inl 0, []) else none
       else
        bif Nat.beq pc 63 then some (.putfield 33, 3, [12, 777, 2], .inl 0, []) else none
      else
       bif Nat.ble 59 pc then
        bif Nat.ble 61 pc then
         bif Nat.beq pc 61 then some (.newarray .int, 2, [20], .inl 0, []) else none
        else
         bif Nat.beq pc 59 then some (.bipush 36, 2, [], .inl (36), []) else none
       else
        bif Nat.beq pc 58 then some (.aload_n 0, 1, [], .inl 0, []) else none
     else
      bif Nat.ble 51 pc then
       bif Nat.ble 53 pc then
        bif Nat.ble 55 pc then
         bif Nat.beq pc 55 then some (.putfield 30, 3, [12, 776, 2], .inl 0, []) else none
        else
         bif Nat.beq pc 53 then some (.newarray .int, 2, [20], .inl 0, []) else none
       else
        bif Nat.beq pc 51 then some (.bipush 36, 2, [], .inl (36), []) else none
      else
       bif Nat.ble 47 pc then
        bif Nat.ble 50 pc then
         bif Nat.beq pc 50 then some (.aload_n 0, 1, [], .inl 0, []) else none
        else
         bif Nat.beq pc 47 then some (.putfield 27, 3, [12, 775, 2], .inl 0, []) else none
       else
        bif Nat.beq pc 45 then some (.newarray .long, 2, [21], .inl 0, []) else none
   else
    bif Nat.ble 22 pc then
     bif Nat.ble 34 pc then
      bif Nat.ble 39 pc then
       bif Nat.ble 42 pc then
        bif Nat.ble 43 pc then
         bif Nat.beq pc 43 then some (.bipush 36, 2, [], .inl (36), []) else none
        else
         bif Nat.beq pc 42 then some (.aload_n 0, 1, [], .inl 0, []) else none
       else
        bif Nat.beq pc 39 then some (.putfield 24, 3, [12, 774, 2], .inl 0, []) else none
      else
       bif Nat.ble 35 pc then
        bif Nat.ble 37 pc then
         bif Nat.beq pc 37 then some (.newarray .int, 2, [20], .inl 0, []) else none
        else
         bif Nat.beq pc 35 then some (.bipush 6, 2, [], .inl (6), []) else none
       else
        bif Nat.beq pc 34 then some (.aload_n 0, 1, [], .inl 0, []) else none
     else
      bif Nat.ble 28 pc then
       bif Nat.ble 29 pc then
        bif Nat.ble 31 pc then
         bif Nat.beq pc 31 then some (.putfield 21, 3, [12, 772, 2], .inl 0, []) else none
        else
         bif Nat.beq pc 29 then some (.newarray .boolean, 2, [22], .inl 0, []) else none
       else
        bif Nat.beq pc 28 then some (.iconst 4, 1, [], .inl (4), []) else none
      else
       bif Nat.ble 24 pc then
        bif Nat.ble 27 pc then
         bif Nat.beq pc 27 then some (.aload_n 0, 1, [], .inl 0, []) else none
        else
         bif Nat.beq pc 24 then some (.putfield 17, 3, [12, 771, 2], .inl 0, []) else none
       else
        bif Nat.beq pc 22 then some (.newarray .boolean, 2, [22], .inl 0, []) else none
    else
     bif Nat.ble 11 pc then
      bif Nat.ble 16 pc then
       bif Nat.ble 19 pc then
        bif Nat.ble 20 pc then
         bif Nat.beq pc 20 then some (.bipush 32, 2, [], .inl (32), []) else none
        else
         bif Nat.beq pc 19 then some (.aload_n 0, 1, [], .inl 0, []) else none
       else
        bif Nat.beq pc 16 then some (.putfield 13, 3, [12, 770, 2], .inl 0, []) else none
      else
       bif Nat.ble 12 pc then
        bif Nat.ble 14 pc then
         bif Nat.beq pc 14 then some (.newarray .long, 2, [21], .inl 0, []) else none
        else
         bif Nat.beq pc 12 then some (.bipush 32, 2, [], .inl (32), []) else none
       else
        bif Nat.beq pc 11 then some (.aload_n 0, 1, [], .inl 0, []) else none
     else
      bif Nat.ble 5 pc then
       bif Nat.ble 6 pc then
        bif Nat.ble 8 pc then
         bif Nat.beq pc 8 then some (.putfield 7, 3, [12, 769, 2], .inl 0, []) else none
        else
         bif Nat.beq pc 6 then some (.newarray .int, 2, [20], .inl 0, []) else none
       else
        bif Nat.beq pc 5 then some (.iconst 4, 1, [], .inl (4), []) else none
      else
       bif Nat.ble 1 pc then
        bif Nat.ble 4 pc then
         bif Nat.beq pc 4 then some (.aload_n 0, 1, [], .inl 0, []) else none
        else
         bif Nat.beq pc 1 then some (.invokespecial 1, 3, [9000], .inl 0, []) else none
       else
        bif Nat.beq pc 0 then some (.aload_n 0, 1, [], .inl 0, []) else none
def kX12_in (pc : Nat) : Option Ent := bif Nat.ble 19 pc then none else
 bif Nat.ble 9 pc then
  bif Nat.ble 14 pc then
   bif Nat.ble 17 pc then
    bif Nat.ble 18 pc then
     bif Nat.beq pc 18 then some (.ireturn, 1, [1], .inl 0, []) else none
    else
     bif Nat.beq pc 17 then some (.iconst 0, 1, [], .inl (0), []) else none
   else
    bif Nat.beq pc 14 then some (.goto 4, 3, [], .inl 0, []) else none
  else
   bif Nat.ble 10 pc then
    bif Nat.ble 13 pc then
     bif Nat.beq pc 13 then some (.iconst 1, 1, [], .inl (1), []) else none
    else
     bif Nat.beq pc 10 then some (.ifCond .gt 7, 3, [], .inl 0, []) else none
   else
    bif Nat.beq pc 9 then some (.lcmp, 1, [], .inl 0, []) else none
 else
  bif Nat.ble 3 pc then
   bif Nat.ble 6 pc then
    bif Nat.ble 7 pc then
     bif Nat.beq pc 7 then some (.lload 4, 2, [], .inl 0, []) else none
    else
     bif Nat.beq pc 6 then some (.lload_n 0, 1, [], .inl 0, []) else none
   else
    bif Nat.beq pc 3 then some (.ifCond .lt 14, 3, [], .inl 0, []) else none
  else
   bif Nat.ble 1 pc then
    bif Nat.ble 2 pc then
     bif Nat.beq pc 2 then some (.lcmp, 1, [], .inl 0, []) else none
    else
     bif Nat.beq pc 1 then some (.lload_n 2, 1, [], .inl 0, []) else none
   else
    bif Nat.beq pc 0 then some (.lload_n 0, 1, [], .inl 0, []) else none
def kX12_isName (pc : Nat) : Option Ent := bif Nat.ble 103 pc then none else
 bif Nat.ble 48 pc then
  bif Nat.ble 72 pc then
   bif Nat.ble 90 pc then
    bif Nat.ble 95 pc then
     bif Nat.ble 101 pc then
      bif Nat.ble 102 pc then
       bif Nat.beq pc 102 then some (.ireturn, 1, [1], .inl 0, []) else none
      else
       bif Nat.beq pc 101 then some (.iload_n 3, 1, [], .inl 0, []) else none
     else
      bif Nat.ble 98 pc then
       bif Nat.beq pc 98 then some (.goto (-78), 3, [], .inl 0, []) else none
      else
       bif Nat.beq pc 95 then some (.iinc 4 1, 3, [], .inl (1), []) else none
    else
     bif Nat.ble 93 pc then
      bif Nat.ble 94 pc then
       bif Nat.beq pc 94 then some (.istore_n 3, 1, [], .inl 0, []) else none
      else
       bif Nat.beq pc 93 then some (.iconst 0, 1, [], .inl (0), []) else none
     else
      bif Nat.beq pc 90 then some (.goto 4, 3, [], .inl 0, []) else none
   else
    bif Nat.ble 80 pc then
     bif Nat.ble 86 pc then
      bif Nat.ble 89 pc then
       bif Nat.beq pc 89 then some (.iconst 1, 1, [], .inl (1), []) else none
      else
       bif Nat.beq pc 86 then some (.ifCond .eq 7, 3, [], .inl 0, []) else none
     else
      bif Nat.ble 83 pc then
       bif Nat.beq pc 83 then some (.invokestatic 169, 3, [157, 3, 1, 6, 100], .inl 0, []) else none
      else
       bif Nat.beq pc 80 then some (.ldc2_w 167, 3, [], .inr (.inl (122)), []) else none
    else
     bif Nat.ble 75 pc then
      bif Nat.ble 77 pc then
       bif Nat.beq pc 77 then some (.ldc2_w 165, 3, [], .inr (.inl (97)), []) else none
      else
       bif Nat.beq pc 75 then some (.lload 5, 2, [], .inl 0, []) else none
     else
      bif Nat.beq pc 72 then some (.goto 17, 3, [], .inl 0, []) else none
  else
   bif Nat.ble 58 pc then
    bif Nat.ble 65 pc then
     bif Nat.ble 68 pc then
      bif Nat.ble 69 pc then
       bif Nat.beq pc 69 then some (.ifCond .ne 24, 3, [], .inl 0, []) else none
      else
       bif Nat.beq pc 68 then some (.lcmp, 1, [], .inl 0, []) else none
     else
      bif Nat.ble 67 pc then
       bif Nat.beq pc 67 then some (.lconst 0, 1, [], .inr (.inl (0)), []) else none
      else
       bif Nat.beq pc 65 then some (.lload 5, 2, [], .inl 0, []) else none
    else
     bif Nat.ble 61 pc then
      bif Nat.ble 62 pc then
       bif Nat.beq pc 62 then some (.ifCond .eq 13, 3, [], .inl 0, []) else none
      else
       bif Nat.beq pc 61 then some (.iload_n 2, 1, [], .inl 0, []) else none
     else
      bif Nat.beq pc 58 then some (.ifCond .eq 35, 3, [], .inl 0, []) else none
   else
    bif Nat.ble 55 pc then
     bif Nat.ble 56 pc then
      bif Nat.ble 57 pc then
       bif Nat.beq pc 57 then some (.iload_n 3, 1, [], .inl 0, []) else none
      else
       bif Nat.beq pc 56 then some (.istore_n 2, 1, [], .inl 0, []) else none
     else
      bif Nat.beq pc 55 then some (.iconst 0, 1, [], .inl (0), []) else none
    else
     bif Nat.ble 51 pc then
      bif Nat.ble 52 pc then
       bif Nat.beq pc 52 then some (.goto 4, 3, [], .inl 0, []) else none
      else
       bif Nat.beq pc 51 then some (.iconst 1, 1, [], .inl (1), []) else none
     else
      bif Nat.beq pc 48 then some (.ifCond .ne 7, 3, [], .inl 0, []) else none
 else
  bif Nat.ble 24 pc then
   bif Nat.ble 37 pc then
    bif Nat.ble 41 pc then
     bif Nat.ble 46 pc then
      bif Nat.ble 47 pc then
       bif Nat.beq pc 47 then some (.lcmp, 1, [], .inl 0, []) else none
      else
       bif Nat.beq pc 46 then some (.lconst 0, 1, [], .inr (.inl (0)), []) else none
     else
      bif Nat.ble 44 pc then
       bif Nat.beq pc 44 then some (.lload 5, 2, [], .inl 0, []) else none
      else
       bif Nat.beq pc 41 then some (.ifCond .ne 10, 3, [], .inl 0, []) else none
    else
     bif Nat.ble 38 pc then
      bif Nat.ble 40 pc then
       bif Nat.beq pc 40 then some (.iload_n 2, 1, [], .inl 0, []) else none
      else
       bif Nat.beq pc 38 then some (.lstore 5, 2, [], .inl 0, []) else none
     else
      bif Nat.beq pc 37 then some (.land, 1, [], .inl 0, []) else none
   else
    bif Nat.ble 30 pc then
     bif Nat.ble 33 pc then
      bif Nat.ble 34 pc then
       bif Nat.beq pc 34 then some (.ldc2_w 163, 3, [], .inr (.inl (255)), []) else none
      else
       bif Nat.beq pc 33 then some (.lushr, 1, [], .inl 0, []) else none
     else
      bif Nat.ble 32 pc then
       bif Nat.beq pc 32 then some (.imul, 1, [], .inl 0, []) else none
      else
       bif Nat.beq pc 30 then some (.iload 4, 2, [], .inl 0, []) else none
    else
     bif Nat.ble 27 pc then
      bif Nat.ble 28 pc then
       bif Nat.beq pc 28 then some (.bipush 8, 2, [], .inl (8), []) else none
      else
       bif Nat.beq pc 27 then some (.lload_n 0, 1, [], .inl 0, []) else none
     else
      bif Nat.beq pc 24 then some (.if_icmp .ge 77, 3, [], .inl 0, []) else none
  else
   bif Nat.ble 10 pc then
    bif Nat.ble 17 pc then
     bif Nat.ble 20 pc then
      bif Nat.ble 22 pc then
       bif Nat.beq pc 22 then some (.bipush 8, 2, [], .inl (8), []) else none
      else
       bif Nat.beq pc 20 then some (.iload 4, 2, [], .inl 0, [1, 5, 6]) else none
     else
      bif Nat.ble 18 pc then
       bif Nat.beq pc 18 then some (.istore 4, 2, [], .inl 0, []) else none
      else
       bif Nat.beq pc 17 then some (.iconst 0, 1, [], .inl (0), []) else none
    else
     bif Nat.ble 13 pc then
      bif Nat.ble 16 pc then
       bif Nat.beq pc 16 then some (.istore_n 3, 1, [], .inl 0, []) else none
      else
       bif Nat.beq pc 13 then some (.invokestatic 169, 3, [157, 3, 1, 6, 100], .inl 0, []) else none
     else
      bif Nat.beq pc 10 then some (.ldc2_w 167, 3, [], .inr (.inl (122)), []) else none
   else
    bif Nat.ble 3 pc then
     bif Nat.ble 6 pc then
      bif Nat.ble 7 pc then
       bif Nat.beq pc 7 then some (.ldc2_w 165, 3, [], .inr (.inl (97)), []) else none
      else
       bif Nat.beq pc 6 then some (.land, 1, [], .inl 0, []) else none
     else
      bif Nat.beq pc 3 then some (.ldc2_w 163, 3, [], .inr (.inl (255)), []) else none
    else
     bif Nat.ble 1 pc then
      bif Nat.ble 2 pc then
       bif Nat.beq pc 2 then some (.lload_n 0, 1, [], .inl 0, []) else none
      else
       bif Nat.beq pc 1 then some (.istore_n 2, 1, [], .inl 0, []) else none
     else
      bif Nat.beq pc 0 then some (.iconst 0, 1, [], .inl (0), []) else none
def kX12_isEnum (pc : Nat) : Option Ent := bif Nat.ble 14 pc then none else
 bif Nat.ble 7 pc then
  bif Nat.ble 9 pc then
   bif Nat.ble 10 pc then
    bif Nat.ble 13 pc then
     bif Nat.beq pc 13 then some (.ireturn, 1, [1], .inl 0, []) else none
    else
     bif Nat.beq pc 10 then some (.invokestatic 169, 3, [157, 3, 1, 6, 100], .inl 0, []) else none
   else
    bif Nat.beq pc 9 then some (.i2l, 1, [], .inl 0, []) else none
  else
   bif Nat.ble 8 pc then
    bif Nat.beq pc 8 then some (.isub, 1, [], .inl 0, []) else none
   else
    bif Nat.beq pc 7 then some (.iconst 1, 1, [], .inl (1), []) else none
 else
  bif Nat.ble 2 pc then
   bif Nat.ble 3 pc then
    bif Nat.ble 4 pc then
     bif Nat.beq pc 4 then some (.getfield 173, 3, [12, 768, 0], .inl 0, []) else none
    else
     bif Nat.beq pc 3 then some (.aload_n 0, 1, [], .inl 0, []) else none
   else
    bif Nat.beq pc 2 then some (.lconst 0, 1, [], .inr (.inl (0)), []) else none
  else
   bif Nat.ble 1 pc then
    bif Nat.beq pc 1 then some (.i2l, 1, [], .inl 0, []) else none
   else
    bif Nat.beq pc 0 then some (.iload_n 1, 1, [], .inl 0, []) else none
def kX12_isConstant (pc : Nat) : Option Ent := bif Nat.ble 32 pc then none else
 bif Nat.ble 16 pc then
  bif Nat.ble 23 pc then
   bif Nat.ble 27 pc then
    bif Nat.ble 30 pc then
     bif Nat.ble 31 pc then
      bif Nat.beq pc 31 then some (.ireturn, 1, [1], .inl 0, []) else none
     else
      bif Nat.beq pc 30 then some (.iconst 0, 1, [], .inl (0), []) else none
    else
     bif Nat.beq pc 27 then some (.goto 4, 3, [], .inl 0, []) else none
   else
    bif Nat.ble 26 pc then
     bif Nat.beq pc 26 then some (.iconst 1, 1, [], .inl (1), []) else none
    else
     bif Nat.beq pc 23 then some (.ifCond .eq 7, 3, [], .inl 0, []) else none
  else
   bif Nat.ble 18 pc then
    bif Nat.ble 19 pc then
     bif Nat.ble 20 pc then
      bif Nat.beq pc 20 then some (.invokestatic 169, 3, [157, 3, 1, 6, 100], .inl 0, []) else none
     else
      bif Nat.beq pc 19 then some (.i2l, 1, [], .inl 0, []) else none
    else
     bif Nat.beq pc 18 then some (.isub, 1, [], .inl 0, []) else none
   else
    bif Nat.ble 17 pc then
     bif Nat.beq pc 17 then some (.iconst 1, 1, [], .inl (1), []) else none
    else
     bif Nat.beq pc 16 then some (.iaload, 1, [], .inl 0, []) else none
 else
  bif Nat.ble 9 pc then
   bif Nat.ble 11 pc then
    bif Nat.ble 12 pc then
     bif Nat.ble 15 pc then
      bif Nat.beq pc 15 then some (.iload_n 1, 1, [], .inl 0, []) else none
     else
      bif Nat.beq pc 12 then some (.getfield 7, 3, [12, 769, 2], .inl 0, []) else none
    else
     bif Nat.beq pc 11 then some (.aload_n 0, 1, [], .inl 0, []) else none
   else
    bif Nat.ble 10 pc then
     bif Nat.beq pc 10 then some (.lconst 0, 1, [], .inr (.inl (0)), []) else none
    else
     bif Nat.beq pc 9 then some (.i2l, 1, [], .inl 0, []) else none
  else
   bif Nat.ble 2 pc then
    bif Nat.ble 5 pc then
     bif Nat.ble 8 pc then
      bif Nat.beq pc 8 then some (.iload_n 2, 1, [], .inl 0, []) else none
     else
      bif Nat.beq pc 5 then some (.ifCond .eq 25, 3, [], .inl 0, []) else none
    else
     bif Nat.beq pc 2 then some (.invokevirtual 176, 3, [159, 2, 1, 2, 12], .inl 0, []) else none
   else
    bif Nat.ble 1 pc then
     bif Nat.beq pc 1 then some (.iload_n 1, 1, [], .inl 0, []) else none
    else
     bif Nat.beq pc 0 then some (.aload_n 0, 1, [], .inl 0, []) else none
def kX12_isRecord (pc : Nat) : Option Ent := bif Nat.ble 14 pc then none else
 bif Nat.ble 7 pc then
  bif Nat.ble 9 pc then
   bif Nat.ble 10 pc then
    bif Nat.ble 13 pc then
     bif Nat.beq pc 13 then some (.ireturn, 1, [1], .inl 0, []) else none
    else
     bif Nat.beq pc 10 then some (.invokestatic 169, 3, [157, 3, 1, 6, 100], .inl 0, []) else none
   else
    bif Nat.beq pc 9 then some (.i2l, 1, [], .inl 0, []) else none
  else
   bif Nat.ble 8 pc then
    bif Nat.beq pc 8 then some (.isub, 1, [], .inl 0, []) else none
   else
    bif Nat.beq pc 7 then some (.iconst 1, 1, [], .inl (1), []) else none
 else
  bif Nat.ble 2 pc then
   bif Nat.ble 3 pc then
    bif Nat.ble 4 pc then
     bif Nat.beq pc 4 then some (.getfield 180, 3, [12, 773, 0], .inl 0, []) else none
    else
     bif Nat.beq pc 3 then some (.aload_n 0, 1, [], .inl 0, []) else none
   else
    bif Nat.beq pc 2 then some (.lconst 0, 1, [], .inr (.inl (0)), []) else none
  else
   bif Nat.ble 1 pc then
    bif Nat.beq pc 1 then some (.i2l, 1, [], .inl 0, []) else none
   else
    bif Nat.beq pc 0 then some (.iload_n 1, 1, [], .inl 0, []) else none
def kX12_isPart (pc : Nat) : Option Ent := bif Nat.ble 32 pc then none else
 bif Nat.ble 16 pc then
  bif Nat.ble 23 pc then
   bif Nat.ble 27 pc then
    bif Nat.ble 30 pc then
     bif Nat.ble 31 pc then
      bif Nat.beq pc 31 then some (.ireturn, 1, [1], .inl 0, []) else none
     else
      bif Nat.beq pc 30 then some (.iconst 0, 1, [], .inl (0), []) else none
    else
     bif Nat.beq pc 27 then some (.goto 4, 3, [], .inl 0, []) else none
   else
    bif Nat.ble 26 pc then
     bif Nat.beq pc 26 then some (.iconst 1, 1, [], .inl (1), []) else none
    else
     bif Nat.beq pc 23 then some (.ifCond .eq 7, 3, [], .inl 0, []) else none
  else
   bif Nat.ble 18 pc then
    bif Nat.ble 19 pc then
     bif Nat.ble 20 pc then
      bif Nat.beq pc 20 then some (.invokestatic 169, 3, [157, 3, 1, 6, 100], .inl 0, []) else none
     else
      bif Nat.beq pc 19 then some (.i2l, 1, [], .inl 0, []) else none
    else
     bif Nat.beq pc 18 then some (.isub, 1, [], .inl 0, []) else none
   else
    bif Nat.ble 17 pc then
     bif Nat.beq pc 17 then some (.iconst 1, 1, [], .inl (1), []) else none
    else
     bif Nat.beq pc 16 then some (.iaload, 1, [], .inl 0, []) else none
 else
  bif Nat.ble 9 pc then
   bif Nat.ble 11 pc then
    bif Nat.ble 12 pc then
     bif Nat.ble 15 pc then
      bif Nat.beq pc 15 then some (.iload_n 1, 1, [], .inl 0, []) else none
     else
      bif Nat.beq pc 12 then some (.getfield 24, 3, [12, 774, 2], .inl 0, []) else none
    else
     bif Nat.beq pc 11 then some (.aload_n 0, 1, [], .inl 0, []) else none
   else
    bif Nat.ble 10 pc then
     bif Nat.beq pc 10 then some (.lconst 0, 1, [], .inr (.inl (0)), []) else none
    else
     bif Nat.beq pc 9 then some (.i2l, 1, [], .inl 0, []) else none
  else
   bif Nat.ble 2 pc then
    bif Nat.ble 5 pc then
     bif Nat.ble 8 pc then
      bif Nat.beq pc 8 then some (.iload_n 2, 1, [], .inl 0, []) else none
     else
      bif Nat.beq pc 5 then some (.ifCond .eq 25, 3, [], .inl 0, []) else none
    else
     bif Nat.beq pc 2 then some (.invokevirtual 183, 3, [161, 2, 1, 2, 12], .inl 0, []) else none
   else
    bif Nat.ble 1 pc then
     bif Nat.beq pc 1 then some (.iload_n 1, 1, [], .inl 0, []) else none
    else
     bif Nat.beq pc 0 then some (.aload_n 0, 1, [], .inl 0, []) else none
def kX12_isFamily (pc : Nat) : Option Ent := bif Nat.ble 14 pc then none else
 bif Nat.ble 7 pc then
  bif Nat.ble 9 pc then
   bif Nat.ble 10 pc then
    bif Nat.ble 13 pc then
     bif Nat.beq pc 13 then some (.ireturn, 1, [1], .inl 0, []) else none
    else
     bif Nat.beq pc 10 then some (.invokestatic 169, 3, [157, 3, 1, 6, 100], .inl 0, []) else none
   else
    bif Nat.beq pc 9 then some (.i2l, 1, [], .inl 0, []) else none
  else
   bif Nat.ble 8 pc then
    bif Nat.beq pc 8 then some (.isub, 1, [], .inl 0, []) else none
   else
    bif Nat.beq pc 7 then some (.iconst 1, 1, [], .inl (1), []) else none
 else
  bif Nat.ble 2 pc then
   bif Nat.ble 3 pc then
    bif Nat.ble 4 pc then
     bif Nat.beq pc 4 then some (.getfield 186, 3, [12, 784, 0], .inl 0, []) else none
    else
     bif Nat.beq pc 3 then some (.aload_n 0, 1, [], .inl 0, []) else none
   else
    bif Nat.beq pc 2 then some (.lconst 0, 1, [], .inr (.inl (0)), []) else none
  else
   bif Nat.ble 1 pc then
    bif Nat.beq pc 1 then some (.i2l, 1, [], .inl 0, []) else none
   else
    bif Nat.beq pc 0 then some (.iload_n 1, 1, [], .inl 0, []) else none
def kX12_enumeration (pc : Nat) : Option Ent := bif Nat.ble 38 pc then none else
 bif Nat.ble 21 pc then
  bif Nat.ble 28 pc then
   bif Nat.ble 35 pc then
    bif Nat.ble 36 pc then
     bif Nat.ble 37 pc then
      bif Nat.beq pc 37 then some (.ireturn, 1, [], .inl 0, []) else none
     else
      bif Nat.beq pc 36 then some (.isub, 1, [], .inl 0, []) else none
    else
     bif Nat.beq pc 35 then some (.iconst 1, 1, [], .inl (1), []) else none
   else
    bif Nat.ble 31 pc then
     bif Nat.ble 32 pc then
      bif Nat.beq pc 32 then some (.getfield 173, 3, [12, 768, 0], .inl 0, []) else none
     else
      bif Nat.beq pc 31 then some (.aload_n 0, 1, [], .inl 0, []) else none
    else
     bif Nat.beq pc 28 then some (.putfield 173, 3, [12, 768, 0], .inl 0, []) else none
  else
   bif Nat.ble 23 pc then
    bif Nat.ble 26 pc then
     bif Nat.ble 27 pc then
      bif Nat.beq pc 27 then some (.iadd, 1, [], .inl 0, []) else none
     else
      bif Nat.beq pc 26 then some (.iconst 1, 1, [], .inl (1), []) else none
    else
     bif Nat.beq pc 23 then some (.getfield 173, 3, [12, 768, 0], .inl 0, []) else none
   else
    bif Nat.ble 22 pc then
     bif Nat.beq pc 22 then some (.dup, 1, [], .inl 0, []) else none
    else
     bif Nat.beq pc 21 then some (.aload_n 0, 1, [], .inl 0, []) else none
 else
  bif Nat.ble 10 pc then
   bif Nat.ble 15 pc then
    bif Nat.ble 18 pc then
     bif Nat.ble 20 pc then
      bif Nat.beq pc 20 then some (.ireturn, 1, [], .inl 0, []) else none
     else
      bif Nat.beq pc 18 then some (.bipush (-3), 2, [], .inl (-3), []) else none
    else
     bif Nat.beq pc 15 then some (.if_icmp .ne 6, 3, [], .inl 0, []) else none
   else
    bif Nat.ble 11 pc then
     bif Nat.ble 14 pc then
      bif Nat.beq pc 14 then some (.iconst 4, 1, [], .inl (4), []) else none
     else
      bif Nat.beq pc 11 then some (.getfield 173, 3, [12, 768, 0], .inl 0, []) else none
    else
     bif Nat.beq pc 10 then some (.aload_n 0, 1, [], .inl 0, []) else none
  else
   bif Nat.ble 4 pc then
    bif Nat.ble 7 pc then
     bif Nat.ble 9 pc then
      bif Nat.beq pc 9 then some (.ireturn, 1, [], .inl 0, []) else none
     else
      bif Nat.beq pc 7 then some (.bipush (-2), 2, [], .inl (-2), []) else none
    else
     bif Nat.beq pc 4 then some (.ifCond .le 6, 3, [], .inl 0, []) else none
   else
    bif Nat.ble 1 pc then
     bif Nat.beq pc 1 then some (.getfield 189, 3, [12, 791, 0], .inl 0, []) else none
    else
     bif Nat.beq pc 0 then some (.aload_n 0, 1, [], .inl 0, []) else none
def kX12_ordinal (pc : Nat) : Option Ent := bif Nat.ble 42 pc then none else
 bif Nat.ble 21 pc then
  bif Nat.ble 28 pc then
   bif Nat.ble 34 pc then
    bif Nat.ble 40 pc then
     bif Nat.ble 41 pc then
      bif Nat.beq pc 41 then some (.ireturn, 1, [], .inl 0, []) else none
     else
      bif Nat.beq pc 40 then some (.iconst (-1), 1, [], .inl (-1), []) else none
    else
     bif Nat.ble 37 pc then
      bif Nat.beq pc 37 then some (.goto (-34), 3, [], .inl 0, []) else none
     else
      bif Nat.beq pc 34 then some (.iinc 4 1, 3, [], .inl (1), []) else none
   else
    bif Nat.ble 31 pc then
     bif Nat.ble 33 pc then
      bif Nat.beq pc 33 then some (.ireturn, 1, [], .inl 0, []) else none
     else
      bif Nat.beq pc 31 then some (.iload 4, 2, [], .inl 0, []) else none
    else
     bif Nat.beq pc 28 then some (.ifCond .ne 6, 3, [], .inl 0, []) else none
  else
   bif Nat.ble 25 pc then
    bif Nat.ble 26 pc then
     bif Nat.ble 27 pc then
      bif Nat.beq pc 27 then some (.lcmp, 1, [], .inl 0, []) else none
     else
      bif Nat.beq pc 26 then some (.lload_n 2, 1, [], .inl 0, []) else none
    else
     bif Nat.beq pc 25 then some (.laload, 1, [], .inl 0, []) else none
   else
    bif Nat.ble 22 pc then
     bif Nat.ble 24 pc then
      bif Nat.beq pc 24 then some (.iadd, 1, [], .inl 0, []) else none
     else
      bif Nat.beq pc 22 then some (.iload 4, 2, [], .inl 0, []) else none
    else
     bif Nat.beq pc 21 then some (.imul, 1, [], .inl 0, []) else none
 else
  bif Nat.ble 10 pc then
   bif Nat.ble 15 pc then
    bif Nat.ble 18 pc then
     bif Nat.ble 20 pc then
      bif Nat.beq pc 20 then some (.iload_n 1, 1, [], .inl 0, []) else none
     else
      bif Nat.beq pc 18 then some (.bipush 8, 2, [], .inl (8), []) else none
    else
     bif Nat.beq pc 15 then some (.getfield 13, 3, [12, 770, 2], .inl 0, []) else none
   else
    bif Nat.ble 11 pc then
     bif Nat.ble 14 pc then
      bif Nat.beq pc 14 then some (.aload_n 0, 1, [], .inl 0, []) else none
     else
      bif Nat.beq pc 11 then some (.if_icmp .ge 29, 3, [], .inl 0, []) else none
    else
     bif Nat.beq pc 10 then some (.iaload, 1, [], .inl 0, []) else none
  else
   bif Nat.ble 5 pc then
    bif Nat.ble 6 pc then
     bif Nat.ble 9 pc then
      bif Nat.beq pc 9 then some (.iload_n 1, 1, [], .inl 0, []) else none
     else
      bif Nat.beq pc 6 then some (.getfield 7, 3, [12, 769, 2], .inl 0, []) else none
    else
     bif Nat.beq pc 5 then some (.aload_n 0, 1, [], .inl 0, []) else none
   else
    bif Nat.ble 1 pc then
     bif Nat.ble 3 pc then
      bif Nat.beq pc 3 then some (.iload 4, 2, [], .inl 0, [3]) else none
     else
      bif Nat.beq pc 1 then some (.istore 4, 2, [], .inl 0, []) else none
    else
     bif Nat.beq pc 0 then some (.iconst 0, 1, [], .inl (0), []) else none
def kX12_constant (pc : Nat) : Option Ent := bif Nat.ble 105 pc then none else
 bif Nat.ble 59 pc then
  bif Nat.ble 83 pc then
   bif Nat.ble 94 pc then
    bif Nat.ble 100 pc then
     bif Nat.ble 102 pc then
      bif Nat.ble 103 pc then
       bif Nat.ble 104 pc then
        bif Nat.beq pc 104 then some (.ireturn, 1, [], .inl 0, []) else none
       else
        bif Nat.beq pc 103 then some (.isub, 1, [], .inl 0, []) else none
      else
       bif Nat.beq pc 102 then some (.iconst 1, 1, [], .inl (1), []) else none
     else
      bif Nat.ble 101 pc then
       bif Nat.beq pc 101 then some (.iaload, 1, [], .inl 0, []) else none
      else
       bif Nat.beq pc 100 then some (.iload_n 1, 1, [], .inl 0, []) else none
    else
     bif Nat.ble 96 pc then
      bif Nat.ble 97 pc then
       bif Nat.beq pc 97 then some (.getfield 7, 3, [12, 769, 2], .inl 0, []) else none
      else
       bif Nat.beq pc 96 then some (.aload_n 0, 1, [], .inl 0, []) else none
     else
      bif Nat.ble 95 pc then
       bif Nat.beq pc 95 then some (.iastore, 1, [], .inl 0, []) else none
      else
       bif Nat.beq pc 94 then some (.iadd, 1, [], .inl 0, []) else none
   else
    bif Nat.ble 90 pc then
     bif Nat.ble 92 pc then
      bif Nat.ble 93 pc then
       bif Nat.beq pc 93 then some (.iconst 1, 1, [], .inl (1), []) else none
      else
       bif Nat.beq pc 92 then some (.iaload, 1, [], .inl 0, []) else none
     else
      bif Nat.ble 91 pc then
       bif Nat.beq pc 91 then some (.dup2, 1, [], .inl 0, []) else none
      else
       bif Nat.beq pc 90 then some (.iload_n 1, 1, [], .inl 0, []) else none
    else
     bif Nat.ble 86 pc then
      bif Nat.ble 87 pc then
       bif Nat.beq pc 87 then some (.getfield 7, 3, [12, 769, 2], .inl 0, []) else none
      else
       bif Nat.beq pc 86 then some (.aload_n 0, 1, [], .inl 0, []) else none
     else
      bif Nat.ble 85 pc then
       bif Nat.beq pc 85 then some (.bastore, 1, [], .inl 0, []) else none
      else
       bif Nat.beq pc 83 then some (.iload 4, 2, [], .inl 0, []) else none
  else
   bif Nat.ble 69 pc then
    bif Nat.ble 76 pc then
     bif Nat.ble 80 pc then
      bif Nat.ble 81 pc then
       bif Nat.ble 82 pc then
        bif Nat.beq pc 82 then some (.iadd, 1, [], .inl 0, []) else none
       else
        bif Nat.beq pc 81 then some (.iaload, 1, [], .inl 0, []) else none
      else
       bif Nat.beq pc 80 then some (.iload_n 1, 1, [], .inl 0, []) else none
     else
      bif Nat.ble 77 pc then
       bif Nat.beq pc 77 then some (.getfield 7, 3, [12, 769, 2], .inl 0, []) else none
      else
       bif Nat.beq pc 76 then some (.aload_n 0, 1, [], .inl 0, []) else none
    else
     bif Nat.ble 74 pc then
      bif Nat.ble 75 pc then
       bif Nat.beq pc 75 then some (.imul, 1, [], .inl 0, []) else none
      else
       bif Nat.beq pc 74 then some (.iload_n 1, 1, [], .inl 0, []) else none
     else
      bif Nat.ble 72 pc then
       bif Nat.beq pc 72 then some (.bipush 8, 2, [], .inl (8), []) else none
      else
       bif Nat.beq pc 69 then some (.getfield 17, 3, [12, 771, 2], .inl 0, []) else none
   else
    bif Nat.ble 65 pc then
     bif Nat.ble 67 pc then
      bif Nat.ble 68 pc then
       bif Nat.beq pc 68 then some (.aload_n 0, 1, [], .inl 0, []) else none
      else
       bif Nat.beq pc 67 then some (.lastore, 1, [], .inl 0, []) else none
     else
      bif Nat.ble 66 pc then
       bif Nat.beq pc 66 then some (.lload_n 2, 1, [], .inl 0, []) else none
      else
       bif Nat.beq pc 65 then some (.iadd, 1, [], .inl 0, []) else none
    else
     bif Nat.ble 63 pc then
      bif Nat.ble 64 pc then
       bif Nat.beq pc 64 then some (.iaload, 1, [], .inl 0, []) else none
      else
       bif Nat.beq pc 63 then some (.iload_n 1, 1, [], .inl 0, []) else none
     else
      bif Nat.ble 60 pc then
       bif Nat.beq pc 60 then some (.getfield 7, 3, [12, 769, 2], .inl 0, []) else none
      else
       bif Nat.beq pc 59 then some (.aload_n 0, 1, [], .inl 0, []) else none
 else
  bif Nat.ble 28 pc then
   bif Nat.ble 43 pc then
    bif Nat.ble 51 pc then
     bif Nat.ble 55 pc then
      bif Nat.ble 57 pc then
       bif Nat.ble 58 pc then
        bif Nat.beq pc 58 then some (.imul, 1, [], .inl 0, []) else none
       else
        bif Nat.beq pc 57 then some (.iload_n 1, 1, [], .inl 0, []) else none
      else
       bif Nat.beq pc 55 then some (.bipush 8, 2, [], .inl (8), []) else none
     else
      bif Nat.ble 52 pc then
       bif Nat.beq pc 52 then some (.getfield 13, 3, [12, 770, 2], .inl 0, []) else none
      else
       bif Nat.beq pc 51 then some (.aload_n 0, 1, [], .inl 0, []) else none
    else
     bif Nat.ble 48 pc then
      bif Nat.ble 50 pc then
       bif Nat.beq pc 50 then some (.ireturn, 1, [], .inl 0, []) else none
      else
       bif Nat.beq pc 48 then some (.bipush (-3), 2, [], .inl (-3), []) else none
     else
      bif Nat.ble 45 pc then
       bif Nat.beq pc 45 then some (.if_icmp .ne 6, 3, [], .inl 0, []) else none
      else
       bif Nat.beq pc 43 then some (.bipush 8, 2, [], .inl (8), []) else none
   else
    bif Nat.ble 37 pc then
     bif Nat.ble 41 pc then
      bif Nat.ble 42 pc then
       bif Nat.beq pc 42 then some (.iaload, 1, [], .inl 0, []) else none
      else
       bif Nat.beq pc 41 then some (.iload_n 1, 1, [], .inl 0, []) else none
     else
      bif Nat.ble 38 pc then
       bif Nat.beq pc 38 then some (.getfield 7, 3, [12, 769, 2], .inl 0, []) else none
      else
       bif Nat.beq pc 37 then some (.aload_n 0, 1, [], .inl 0, []) else none
    else
     bif Nat.ble 34 pc then
      bif Nat.ble 36 pc then
       bif Nat.beq pc 36 then some (.ireturn, 1, [], .inl 0, []) else none
      else
       bif Nat.beq pc 34 then some (.bipush (-2), 2, [], .inl (-2), []) else none
     else
      bif Nat.ble 31 pc then
       bif Nat.beq pc 31 then some (.ifCond .le 6, 3, [], .inl 0, []) else none
      else
       bif Nat.beq pc 28 then some (.getfield 189, 3, [12, 791, 0], .inl 0, []) else none
  else
   bif Nat.ble 16 pc then
    bif Nat.ble 22 pc then
     bif Nat.ble 26 pc then
      bif Nat.ble 27 pc then
       bif Nat.beq pc 27 then some (.aload_n 0, 1, [], .inl 0, []) else none
      else
       bif Nat.beq pc 26 then some (.ireturn, 1, [], .inl 0, []) else none
     else
      bif Nat.ble 25 pc then
       bif Nat.beq pc 25 then some (.iconst (-1), 1, [], .inl (-1), []) else none
      else
       bif Nat.beq pc 22 then some (.if_icmp .eq 5, 3, [], .inl 0, []) else none
    else
     bif Nat.ble 18 pc then
      bif Nat.ble 21 pc then
       bif Nat.beq pc 21 then some (.iconst (-1), 1, [], .inl (-1), []) else none
      else
       bif Nat.beq pc 18 then some (.invokevirtual 196, 3, [165, 3, 1, 5, 12], .inl 0, []) else none
     else
      bif Nat.ble 17 pc then
       bif Nat.beq pc 17 then some (.lload_n 2, 1, [], .inl 0, []) else none
      else
       bif Nat.beq pc 16 then some (.iload_n 1, 1, [], .inl 0, []) else none
   else
    bif Nat.ble 8 pc then
     bif Nat.ble 12 pc then
      bif Nat.ble 15 pc then
       bif Nat.beq pc 15 then some (.aload_n 0, 1, [], .inl 0, []) else none
      else
       bif Nat.beq pc 12 then some (.ifCond .eq 13, 3, [], .inl 0, []) else none
     else
      bif Nat.ble 9 pc then
       bif Nat.beq pc 9 then some (.invokestatic 192, 3, [158, 1, 1, 7, 100], .inl 0, []) else none
      else
       bif Nat.beq pc 8 then some (.lload_n 2, 1, [], .inl 0, []) else none
    else
     bif Nat.ble 2 pc then
      bif Nat.ble 5 pc then
       bif Nat.beq pc 5 then some (.ifCond .eq 20, 3, [], .inl 0, []) else none
      else
       bif Nat.beq pc 2 then some (.invokevirtual 176, 3, [159, 2, 1, 2, 12], .inl 0, []) else none
     else
      bif Nat.ble 1 pc then
       bif Nat.beq pc 1 then some (.iload_n 1, 1, [], .inl 0, []) else none
      else
       bif Nat.beq pc 0 then some (.aload_n 0, 1, [], .inl 0, []) else none
def kX12_exchange (pc : Nat) : Option Ent := bif Nat.ble 128 pc then none else
 bif Nat.ble 67 pc then
  bif Nat.ble 98 pc then
   bif Nat.ble 113 pc then
    bif Nat.ble 121 pc then
     bif Nat.ble 125 pc then
      bif Nat.ble 126 pc then
       bif Nat.ble 127 pc then
        bif Nat.beq pc 127 then some (.ireturn, 1, [], .inl 0, []) else none
       else
        bif Nat.beq pc 126 then some (.iconst 1, 1, [], .inl (1), []) else none
      else
       bif Nat.beq pc 125 then some (.bastore, 1, [], .inl 0, []) else none
     else
      bif Nat.ble 122 pc then
       bif Nat.ble 123 pc then
        bif Nat.beq pc 123 then some (.iload 6, 2, [], .inl 0, []) else none
       else
        bif Nat.beq pc 122 then some (.iadd, 1, [], .inl 0, []) else none
      else
       bif Nat.beq pc 121 then some (.iload_n 3, 1, [], .inl 0, []) else none
    else
     bif Nat.ble 117 pc then
      bif Nat.ble 119 pc then
       bif Nat.ble 120 pc then
        bif Nat.beq pc 120 then some (.imul, 1, [], .inl 0, []) else none
       else
        bif Nat.beq pc 119 then some (.iload_n 1, 1, [], .inl 0, []) else none
      else
       bif Nat.beq pc 117 then some (.bipush 8, 2, [], .inl (8), []) else none
     else
      bif Nat.ble 114 pc then
       bif Nat.beq pc 114 then some (.getfield 17, 3, [12, 771, 2], .inl 0, []) else none
      else
       bif Nat.beq pc 113 then some (.aload_n 0, 1, [], .inl 0, []) else none
   else
    bif Nat.ble 106 pc then
     bif Nat.ble 109 pc then
      bif Nat.ble 110 pc then
       bif Nat.ble 112 pc then
        bif Nat.beq pc 112 then some (.lastore, 1, [], .inl 0, []) else none
       else
        bif Nat.beq pc 110 then some (.lload 4, 2, [], .inl 0, []) else none
      else
       bif Nat.beq pc 109 then some (.iadd, 1, [], .inl 0, []) else none
     else
      bif Nat.ble 107 pc then
       bif Nat.ble 108 pc then
        bif Nat.beq pc 108 then some (.iload_n 3, 1, [], .inl 0, []) else none
       else
        bif Nat.beq pc 107 then some (.imul, 1, [], .inl 0, []) else none
      else
       bif Nat.beq pc 106 then some (.iload_n 1, 1, [], .inl 0, []) else none
    else
     bif Nat.ble 100 pc then
      bif Nat.ble 101 pc then
       bif Nat.ble 104 pc then
        bif Nat.beq pc 104 then some (.bipush 8, 2, [], .inl (8), []) else none
       else
        bif Nat.beq pc 101 then some (.getfield 13, 3, [12, 770, 2], .inl 0, []) else none
      else
       bif Nat.beq pc 100 then some (.aload_n 0, 1, [], .inl 0, []) else none
     else
      bif Nat.ble 99 pc then
       bif Nat.beq pc 99 then some (.bastore, 1, [], .inl 0, []) else none
      else
       bif Nat.beq pc 98 then some (.baload, 1, [], .inl 0, []) else none
  else
   bif Nat.ble 84 pc then
    bif Nat.ble 89 pc then
     bif Nat.ble 95 pc then
      bif Nat.ble 96 pc then
       bif Nat.ble 97 pc then
        bif Nat.beq pc 97 then some (.iadd, 1, [], .inl 0, []) else none
       else
        bif Nat.beq pc 96 then some (.iload_n 3, 1, [], .inl 0, []) else none
      else
       bif Nat.beq pc 95 then some (.imul, 1, [], .inl 0, []) else none
     else
      bif Nat.ble 92 pc then
       bif Nat.ble 94 pc then
        bif Nat.beq pc 94 then some (.iload_n 1, 1, [], .inl 0, []) else none
       else
        bif Nat.beq pc 92 then some (.bipush 8, 2, [], .inl (8), []) else none
      else
       bif Nat.beq pc 89 then some (.getfield 17, 3, [12, 771, 2], .inl 0, []) else none
    else
     bif Nat.ble 86 pc then
      bif Nat.ble 87 pc then
       bif Nat.ble 88 pc then
        bif Nat.beq pc 88 then some (.aload_n 0, 1, [], .inl 0, []) else none
       else
        bif Nat.beq pc 87 then some (.iadd, 1, [], .inl 0, []) else none
      else
       bif Nat.beq pc 86 then some (.iload_n 2, 1, [], .inl 0, []) else none
     else
      bif Nat.ble 85 pc then
       bif Nat.beq pc 85 then some (.imul, 1, [], .inl 0, []) else none
      else
       bif Nat.beq pc 84 then some (.iload_n 1, 1, [], .inl 0, []) else none
   else
    bif Nat.ble 75 pc then
     bif Nat.ble 78 pc then
      bif Nat.ble 79 pc then
       bif Nat.ble 82 pc then
        bif Nat.beq pc 82 then some (.bipush 8, 2, [], .inl (8), []) else none
       else
        bif Nat.beq pc 79 then some (.getfield 17, 3, [12, 771, 2], .inl 0, []) else none
      else
       bif Nat.beq pc 78 then some (.aload_n 0, 1, [], .inl 0, []) else none
     else
      bif Nat.ble 76 pc then
       bif Nat.ble 77 pc then
        bif Nat.beq pc 77 then some (.lastore, 1, [], .inl 0, []) else none
       else
        bif Nat.beq pc 76 then some (.laload, 1, [], .inl 0, []) else none
      else
       bif Nat.beq pc 75 then some (.iadd, 1, [], .inl 0, []) else none
    else
     bif Nat.ble 72 pc then
      bif Nat.ble 73 pc then
       bif Nat.ble 74 pc then
        bif Nat.beq pc 74 then some (.iload_n 3, 1, [], .inl 0, []) else none
       else
        bif Nat.beq pc 73 then some (.imul, 1, [], .inl 0, []) else none
      else
       bif Nat.beq pc 72 then some (.iload_n 1, 1, [], .inl 0, []) else none
     else
      bif Nat.ble 70 pc then
       bif Nat.beq pc 70 then some (.bipush 8, 2, [], .inl (8), []) else none
      else
       bif Nat.beq pc 67 then some (.getfield 13, 3, [12, 770, 2], .inl 0, []) else none
 else
  bif Nat.ble 37 pc then
   bif Nat.ble 52 pc then
    bif Nat.ble 60 pc then
     bif Nat.ble 64 pc then
      bif Nat.ble 65 pc then
       bif Nat.ble 66 pc then
        bif Nat.beq pc 66 then some (.aload_n 0, 1, [], .inl 0, []) else none
       else
        bif Nat.beq pc 65 then some (.iadd, 1, [], .inl 0, []) else none
      else
       bif Nat.beq pc 64 then some (.iload_n 2, 1, [], .inl 0, []) else none
     else
      bif Nat.ble 62 pc then
       bif Nat.ble 63 pc then
        bif Nat.beq pc 63 then some (.imul, 1, [], .inl 0, []) else none
       else
        bif Nat.beq pc 62 then some (.iload_n 1, 1, [], .inl 0, []) else none
      else
       bif Nat.beq pc 60 then some (.bipush 8, 2, [], .inl (8), []) else none
    else
     bif Nat.ble 54 pc then
      bif Nat.ble 56 pc then
       bif Nat.ble 57 pc then
        bif Nat.beq pc 57 then some (.getfield 13, 3, [12, 770, 2], .inl 0, []) else none
       else
        bif Nat.beq pc 56 then some (.aload_n 0, 1, [], .inl 0, []) else none
      else
       bif Nat.beq pc 54 then some (.istore 6, 2, [], .inl 0, []) else none
     else
      bif Nat.ble 53 pc then
       bif Nat.beq pc 53 then some (.baload, 1, [], .inl 0, []) else none
      else
       bif Nat.beq pc 52 then some (.iadd, 1, [], .inl 0, []) else none
   else
    bif Nat.ble 43 pc then
     bif Nat.ble 49 pc then
      bif Nat.ble 50 pc then
       bif Nat.ble 51 pc then
        bif Nat.beq pc 51 then some (.iload_n 2, 1, [], .inl 0, []) else none
       else
        bif Nat.beq pc 50 then some (.imul, 1, [], .inl 0, []) else none
      else
       bif Nat.beq pc 49 then some (.iload_n 1, 1, [], .inl 0, []) else none
     else
      bif Nat.ble 44 pc then
       bif Nat.ble 47 pc then
        bif Nat.beq pc 47 then some (.bipush 8, 2, [], .inl (8), []) else none
       else
        bif Nat.beq pc 44 then some (.getfield 17, 3, [12, 771, 2], .inl 0, []) else none
      else
       bif Nat.beq pc 43 then some (.aload_n 0, 1, [], .inl 0, []) else none
    else
     bif Nat.ble 39 pc then
      bif Nat.ble 40 pc then
       bif Nat.ble 41 pc then
        bif Nat.beq pc 41 then some (.lstore 4, 2, [], .inl 0, []) else none
       else
        bif Nat.beq pc 40 then some (.laload, 1, [], .inl 0, []) else none
      else
       bif Nat.beq pc 39 then some (.iadd, 1, [], .inl 0, []) else none
     else
      bif Nat.ble 38 pc then
       bif Nat.beq pc 38 then some (.iload_n 2, 1, [], .inl 0, []) else none
      else
       bif Nat.beq pc 37 then some (.imul, 1, [], .inl 0, []) else none
  else
   bif Nat.ble 18 pc then
    bif Nat.ble 27 pc then
     bif Nat.ble 31 pc then
      bif Nat.ble 34 pc then
       bif Nat.ble 36 pc then
        bif Nat.beq pc 36 then some (.iload_n 1, 1, [], .inl 0, []) else none
       else
        bif Nat.beq pc 34 then some (.bipush 8, 2, [], .inl (8), []) else none
      else
       bif Nat.beq pc 31 then some (.getfield 13, 3, [12, 770, 2], .inl 0, []) else none
     else
      bif Nat.ble 29 pc then
       bif Nat.ble 30 pc then
        bif Nat.beq pc 30 then some (.aload_n 0, 1, [], .inl 0, []) else none
       else
        bif Nat.beq pc 29 then some (.ireturn, 1, [], .inl 0, []) else none
      else
       bif Nat.beq pc 27 then some (.bipush (-2), 2, [], .inl (-2), []) else none
    else
     bif Nat.ble 20 pc then
      bif Nat.ble 21 pc then
       bif Nat.ble 24 pc then
        bif Nat.beq pc 24 then some (.ifCond .le 6, 3, [], .inl 0, []) else none
       else
        bif Nat.beq pc 21 then some (.getfield 189, 3, [12, 791, 0], .inl 0, []) else none
      else
       bif Nat.beq pc 20 then some (.aload_n 0, 1, [], .inl 0, []) else none
     else
      bif Nat.ble 19 pc then
       bif Nat.beq pc 19 then some (.ireturn, 1, [], .inl 0, []) else none
      else
       bif Nat.beq pc 18 then some (.iconst (-1), 1, [], .inl (-1), []) else none
   else
    bif Nat.ble 9 pc then
     bif Nat.ble 11 pc then
      bif Nat.ble 12 pc then
       bif Nat.ble 15 pc then
        bif Nat.beq pc 15 then some (.ifCond .ne 5, 3, [], .inl 0, []) else none
       else
        bif Nat.beq pc 12 then some (.invokevirtual 200, 3, [160, 3, 1, 3, 12], .inl 0, []) else none
      else
       bif Nat.beq pc 11 then some (.iload_n 3, 1, [], .inl 0, []) else none
     else
      bif Nat.ble 10 pc then
       bif Nat.beq pc 10 then some (.iload_n 1, 1, [], .inl 0, []) else none
      else
       bif Nat.beq pc 9 then some (.aload_n 0, 1, [], .inl 0, []) else none
    else
     bif Nat.ble 2 pc then
      bif Nat.ble 3 pc then
       bif Nat.ble 6 pc then
        bif Nat.beq pc 6 then some (.ifCond .eq 12, 3, [], .inl 0, []) else none
       else
        bif Nat.beq pc 3 then some (.invokevirtual 200, 3, [160, 3, 1, 3, 12], .inl 0, []) else none
      else
       bif Nat.beq pc 2 then some (.iload_n 2, 1, [], .inl 0, []) else none
     else
      bif Nat.ble 1 pc then
       bif Nat.beq pc 1 then some (.iload_n 1, 1, [], .inl 0, []) else none
      else
       bif Nat.beq pc 0 then some (.aload_n 0, 1, [], .inl 0, []) else none
def kX12_forget (pc : Nat) : Option Ent := bif Nat.ble 104 pc then none else
 bif Nat.ble 53 pc then
  bif Nat.ble 77 pc then
   bif Nat.ble 89 pc then
    bif Nat.ble 97 pc then
     bif Nat.ble 101 pc then
      bif Nat.ble 102 pc then
       bif Nat.ble 103 pc then
        bif Nat.beq pc 103 then some (.ireturn, 1, [], .inl 0, []) else none
       else
        bif Nat.beq pc 102 then some (.iaload, 1, [], .inl 0, []) else none
      else
       bif Nat.beq pc 101 then some (.iload_n 1, 1, [], .inl 0, []) else none
     else
      bif Nat.ble 98 pc then
       bif Nat.beq pc 98 then some (.getfield 7, 3, [12, 769, 2], .inl 0, []) else none
      else
       bif Nat.beq pc 97 then some (.aload_n 0, 1, [], .inl 0, []) else none
    else
     bif Nat.ble 91 pc then
      bif Nat.ble 94 pc then
       bif Nat.beq pc 94 then some (.goto (-61), 3, [], .inl 0, []) else none
      else
       bif Nat.beq pc 91 then some (.iinc 3 1, 3, [], .inl (1), []) else none
     else
      bif Nat.ble 90 pc then
       bif Nat.beq pc 90 then some (.bastore, 1, [], .inl 0, []) else none
      else
       bif Nat.beq pc 89 then some (.baload, 1, [], .inl 0, []) else none
   else
    bif Nat.ble 84 pc then
     bif Nat.ble 86 pc then
      bif Nat.ble 87 pc then
       bif Nat.ble 88 pc then
        bif Nat.beq pc 88 then some (.iadd, 1, [], .inl 0, []) else none
       else
        bif Nat.beq pc 87 then some (.iconst 1, 1, [], .inl (1), []) else none
      else
       bif Nat.beq pc 86 then some (.iadd, 1, [], .inl 0, []) else none
     else
      bif Nat.ble 85 pc then
       bif Nat.beq pc 85 then some (.iload_n 3, 1, [], .inl 0, []) else none
      else
       bif Nat.beq pc 84 then some (.imul, 1, [], .inl 0, []) else none
    else
     bif Nat.ble 81 pc then
      bif Nat.ble 83 pc then
       bif Nat.beq pc 83 then some (.iload_n 1, 1, [], .inl 0, []) else none
      else
       bif Nat.beq pc 81 then some (.bipush 8, 2, [], .inl (8), []) else none
     else
      bif Nat.ble 78 pc then
       bif Nat.beq pc 78 then some (.getfield 17, 3, [12, 771, 2], .inl 0, []) else none
      else
       bif Nat.beq pc 77 then some (.aload_n 0, 1, [], .inl 0, []) else none
  else
   bif Nat.ble 65 pc then
    bif Nat.ble 71 pc then
     bif Nat.ble 74 pc then
      bif Nat.ble 75 pc then
       bif Nat.ble 76 pc then
        bif Nat.beq pc 76 then some (.iadd, 1, [], .inl 0, []) else none
       else
        bif Nat.beq pc 75 then some (.iload_n 3, 1, [], .inl 0, []) else none
      else
       bif Nat.beq pc 74 then some (.imul, 1, [], .inl 0, []) else none
     else
      bif Nat.ble 73 pc then
       bif Nat.beq pc 73 then some (.iload_n 1, 1, [], .inl 0, []) else none
      else
       bif Nat.beq pc 71 then some (.bipush 8, 2, [], .inl (8), []) else none
    else
     bif Nat.ble 67 pc then
      bif Nat.ble 68 pc then
       bif Nat.beq pc 68 then some (.getfield 17, 3, [12, 771, 2], .inl 0, []) else none
      else
       bif Nat.beq pc 67 then some (.aload_n 0, 1, [], .inl 0, []) else none
     else
      bif Nat.ble 66 pc then
       bif Nat.beq pc 66 then some (.lastore, 1, [], .inl 0, []) else none
      else
       bif Nat.beq pc 65 then some (.laload, 1, [], .inl 0, []) else none
   else
    bif Nat.ble 60 pc then
     bif Nat.ble 62 pc then
      bif Nat.ble 63 pc then
       bif Nat.ble 64 pc then
        bif Nat.beq pc 64 then some (.iadd, 1, [], .inl 0, []) else none
       else
        bif Nat.beq pc 63 then some (.iconst 1, 1, [], .inl (1), []) else none
      else
       bif Nat.beq pc 62 then some (.iadd, 1, [], .inl 0, []) else none
     else
      bif Nat.ble 61 pc then
       bif Nat.beq pc 61 then some (.iload_n 3, 1, [], .inl 0, []) else none
      else
       bif Nat.beq pc 60 then some (.imul, 1, [], .inl 0, []) else none
    else
     bif Nat.ble 57 pc then
      bif Nat.ble 59 pc then
       bif Nat.beq pc 59 then some (.iload_n 1, 1, [], .inl 0, []) else none
      else
       bif Nat.beq pc 57 then some (.bipush 8, 2, [], .inl (8), []) else none
     else
      bif Nat.ble 54 pc then
       bif Nat.beq pc 54 then some (.getfield 13, 3, [12, 770, 2], .inl 0, []) else none
      else
       bif Nat.beq pc 53 then some (.aload_n 0, 1, [], .inl 0, []) else none
 else
  bif Nat.ble 28 pc then
   bif Nat.ble 39 pc then
    bif Nat.ble 47 pc then
     bif Nat.ble 50 pc then
      bif Nat.ble 51 pc then
       bif Nat.ble 52 pc then
        bif Nat.beq pc 52 then some (.iadd, 1, [], .inl 0, []) else none
       else
        bif Nat.beq pc 51 then some (.iload_n 3, 1, [], .inl 0, []) else none
      else
       bif Nat.beq pc 50 then some (.imul, 1, [], .inl 0, []) else none
     else
      bif Nat.ble 49 pc then
       bif Nat.beq pc 49 then some (.iload_n 1, 1, [], .inl 0, []) else none
      else
       bif Nat.beq pc 47 then some (.bipush 8, 2, [], .inl (8), []) else none
    else
     bif Nat.ble 43 pc then
      bif Nat.ble 44 pc then
       bif Nat.beq pc 44 then some (.getfield 13, 3, [12, 770, 2], .inl 0, []) else none
      else
       bif Nat.beq pc 43 then some (.aload_n 0, 1, [], .inl 0, []) else none
     else
      bif Nat.ble 40 pc then
       bif Nat.beq pc 40 then some (.if_icmp .ge 57, 3, [], .inl 0, []) else none
      else
       bif Nat.beq pc 39 then some (.iaload, 1, [], .inl 0, []) else none
   else
    bif Nat.ble 32 pc then
     bif Nat.ble 34 pc then
      bif Nat.ble 35 pc then
       bif Nat.ble 38 pc then
        bif Nat.beq pc 38 then some (.iload_n 1, 1, [], .inl 0, []) else none
       else
        bif Nat.beq pc 35 then some (.getfield 7, 3, [12, 769, 2], .inl 0, []) else none
      else
       bif Nat.beq pc 34 then some (.aload_n 0, 1, [], .inl 0, []) else none
     else
      bif Nat.ble 33 pc then
       bif Nat.beq pc 33 then some (.iload_n 3, 1, [], .inl 0, [2]) else none
      else
       bif Nat.beq pc 32 then some (.istore_n 3, 1, [], .inl 0, []) else none
    else
     bif Nat.ble 30 pc then
      bif Nat.ble 31 pc then
       bif Nat.beq pc 31 then some (.iload_n 2, 1, [], .inl 0, []) else none
      else
       bif Nat.beq pc 30 then some (.iastore, 1, [], .inl 0, []) else none
     else
      bif Nat.ble 29 pc then
       bif Nat.beq pc 29 then some (.isub, 1, [], .inl 0, []) else none
      else
       bif Nat.beq pc 28 then some (.iconst 1, 1, [], .inl (1), []) else none
  else
   bif Nat.ble 12 pc then
    bif Nat.ble 21 pc then
     bif Nat.ble 25 pc then
      bif Nat.ble 26 pc then
       bif Nat.ble 27 pc then
        bif Nat.beq pc 27 then some (.iaload, 1, [], .inl 0, []) else none
       else
        bif Nat.beq pc 26 then some (.dup2, 1, [], .inl 0, []) else none
      else
       bif Nat.beq pc 25 then some (.iload_n 1, 1, [], .inl 0, []) else none
     else
      bif Nat.ble 22 pc then
       bif Nat.beq pc 22 then some (.getfield 7, 3, [12, 769, 2], .inl 0, []) else none
      else
       bif Nat.beq pc 21 then some (.aload_n 0, 1, [], .inl 0, []) else none
    else
     bif Nat.ble 18 pc then
      bif Nat.ble 20 pc then
       bif Nat.beq pc 20 then some (.ireturn, 1, [], .inl 0, []) else none
      else
       bif Nat.beq pc 18 then some (.bipush (-2), 2, [], .inl (-2), []) else none
     else
      bif Nat.ble 15 pc then
       bif Nat.beq pc 15 then some (.ifCond .le 6, 3, [], .inl 0, []) else none
      else
       bif Nat.beq pc 12 then some (.getfield 189, 3, [12, 791, 0], .inl 0, []) else none
   else
    bif Nat.ble 6 pc then
     bif Nat.ble 10 pc then
      bif Nat.ble 11 pc then
       bif Nat.beq pc 11 then some (.aload_n 0, 1, [], .inl 0, []) else none
      else
       bif Nat.beq pc 10 then some (.ireturn, 1, [], .inl 0, []) else none
     else
      bif Nat.ble 9 pc then
       bif Nat.beq pc 9 then some (.iconst (-1), 1, [], .inl (-1), []) else none
      else
       bif Nat.beq pc 6 then some (.ifCond .ne 5, 3, [], .inl 0, []) else none
    else
     bif Nat.ble 2 pc then
      bif Nat.ble 3 pc then
       bif Nat.beq pc 3 then some (.invokevirtual 200, 3, [160, 3, 1, 3, 12], .inl 0, []) else none
      else
       bif Nat.beq pc 2 then some (.iload_n 2, 1, [], .inl 0, []) else none
     else
      bif Nat.ble 1 pc then
       bif Nat.beq pc 1 then some (.iload_n 1, 1, [], .inl 0, []) else none
      else
       bif Nat.beq pc 0 then some (.aload_n 0, 1, [], .inl 0, []) else none
def kX12_fails (pc : Nat) : Option Ent := bif Nat.ble 44 pc then none else
 bif Nat.ble 24 pc then
  bif Nat.ble 35 pc then
   bif Nat.ble 40 pc then
    bif Nat.ble 42 pc then
     bif Nat.ble 43 pc then
      bif Nat.beq pc 43 then some (.ireturn, 1, [], .inl 0, []) else none
     else
      bif Nat.beq pc 42 then some (.iload_n 3, 1, [], .inl 0, []) else none
    else
     bif Nat.ble 41 pc then
      bif Nat.beq pc 41 then some (.bastore, 1, [], .inl 0, []) else none
     else
      bif Nat.beq pc 40 then some (.iload_n 2, 1, [], .inl 0, []) else none
   else
    bif Nat.ble 36 pc then
     bif Nat.ble 39 pc then
      bif Nat.beq pc 39 then some (.iload_n 1, 1, [], .inl 0, []) else none
     else
      bif Nat.beq pc 36 then some (.getfield 21, 3, [12, 772, 2], .inl 0, []) else none
    else
     bif Nat.beq pc 35 then some (.aload_n 0, 1, [], .inl 0, []) else none
  else
   bif Nat.ble 29 pc then
    bif Nat.ble 33 pc then
     bif Nat.ble 34 pc then
      bif Nat.beq pc 34 then some (.istore_n 3, 1, [], .inl 0, []) else none
     else
      bif Nat.beq pc 33 then some (.iconst 0, 1, [], .inl (0), []) else none
    else
     bif Nat.ble 30 pc then
      bif Nat.beq pc 30 then some (.goto 4, 3, [], .inl 0, []) else none
     else
      bif Nat.beq pc 29 then some (.iconst 1, 1, [], .inl (1), []) else none
   else
    bif Nat.ble 25 pc then
     bif Nat.ble 26 pc then
      bif Nat.beq pc 26 then some (.ifCond .eq 7, 3, [], .inl 0, []) else none
     else
      bif Nat.beq pc 25 then some (.baload, 1, [], .inl 0, []) else none
    else
     bif Nat.beq pc 24 then some (.iload_n 1, 1, [], .inl 0, []) else none
 else
  bif Nat.ble 10 pc then
   bif Nat.ble 17 pc then
    bif Nat.ble 20 pc then
     bif Nat.ble 21 pc then
      bif Nat.beq pc 21 then some (.getfield 21, 3, [12, 772, 2], .inl 0, []) else none
     else
      bif Nat.beq pc 20 then some (.aload_n 0, 1, [], .inl 0, []) else none
    else
     bif Nat.ble 19 pc then
      bif Nat.beq pc 19 then some (.ireturn, 1, [], .inl 0, []) else none
     else
      bif Nat.beq pc 17 then some (.bipush (-2), 2, [], .inl (-2), []) else none
   else
    bif Nat.ble 11 pc then
     bif Nat.ble 14 pc then
      bif Nat.beq pc 14 then some (.ifCond .le 6, 3, [], .inl 0, []) else none
     else
      bif Nat.beq pc 11 then some (.getfield 189, 3, [12, 791, 0], .inl 0, []) else none
    else
     bif Nat.beq pc 10 then some (.aload_n 0, 1, [], .inl 0, []) else none
  else
   bif Nat.ble 5 pc then
    bif Nat.ble 8 pc then
     bif Nat.ble 9 pc then
      bif Nat.beq pc 9 then some (.ireturn, 1, [], .inl 0, []) else none
     else
      bif Nat.beq pc 8 then some (.iconst (-1), 1, [], .inl (-1), []) else none
    else
     bif Nat.beq pc 5 then some (.ifCond .ne 5, 3, [], .inl 0, []) else none
   else
    bif Nat.ble 1 pc then
     bif Nat.ble 2 pc then
      bif Nat.beq pc 2 then some (.invokevirtual 176, 3, [159, 2, 1, 2, 12], .inl 0, []) else none
     else
      bif Nat.beq pc 1 then some (.iload_n 1, 1, [], .inl 0, []) else none
    else
     bif Nat.beq pc 0 then some (.aload_n 0, 1, [], .inl 0, []) else none
def kX12_family (pc : Nat) : Option Ent := bif Nat.ble 38 pc then none else
 bif Nat.ble 21 pc then
  bif Nat.ble 28 pc then
   bif Nat.ble 35 pc then
    bif Nat.ble 36 pc then
     bif Nat.ble 37 pc then
      bif Nat.beq pc 37 then some (.ireturn, 1, [], .inl 0, []) else none
     else
      bif Nat.beq pc 36 then some (.isub, 1, [], .inl 0, []) else none
    else
     bif Nat.beq pc 35 then some (.iconst 1, 1, [], .inl (1), []) else none
   else
    bif Nat.ble 31 pc then
     bif Nat.ble 32 pc then
      bif Nat.beq pc 32 then some (.getfield 186, 3, [12, 784, 0], .inl 0, []) else none
     else
      bif Nat.beq pc 31 then some (.aload_n 0, 1, [], .inl 0, []) else none
    else
     bif Nat.beq pc 28 then some (.putfield 186, 3, [12, 784, 0], .inl 0, []) else none
  else
   bif Nat.ble 23 pc then
    bif Nat.ble 26 pc then
     bif Nat.ble 27 pc then
      bif Nat.beq pc 27 then some (.iadd, 1, [], .inl 0, []) else none
     else
      bif Nat.beq pc 26 then some (.iconst 1, 1, [], .inl (1), []) else none
    else
     bif Nat.beq pc 23 then some (.getfield 186, 3, [12, 784, 0], .inl 0, []) else none
   else
    bif Nat.ble 22 pc then
     bif Nat.beq pc 22 then some (.dup, 1, [], .inl 0, []) else none
    else
     bif Nat.beq pc 21 then some (.aload_n 0, 1, [], .inl 0, []) else none
 else
  bif Nat.ble 10 pc then
   bif Nat.ble 15 pc then
    bif Nat.ble 18 pc then
     bif Nat.ble 20 pc then
      bif Nat.beq pc 20 then some (.ireturn, 1, [], .inl 0, []) else none
     else
      bif Nat.beq pc 18 then some (.bipush (-3), 2, [], .inl (-3), []) else none
    else
     bif Nat.beq pc 15 then some (.if_icmp .ne 6, 3, [], .inl 0, []) else none
   else
    bif Nat.ble 11 pc then
     bif Nat.ble 14 pc then
      bif Nat.beq pc 14 then some (.iconst 3, 1, [], .inl (3), []) else none
     else
      bif Nat.beq pc 11 then some (.getfield 186, 3, [12, 784, 0], .inl 0, []) else none
    else
     bif Nat.beq pc 10 then some (.aload_n 0, 1, [], .inl 0, []) else none
  else
   bif Nat.ble 4 pc then
    bif Nat.ble 7 pc then
     bif Nat.ble 9 pc then
      bif Nat.beq pc 9 then some (.ireturn, 1, [], .inl 0, []) else none
     else
      bif Nat.beq pc 7 then some (.bipush (-2), 2, [], .inl (-2), []) else none
    else
     bif Nat.beq pc 4 then some (.ifCond .le 6, 3, [], .inl 0, []) else none
   else
    bif Nat.ble 1 pc then
     bif Nat.beq pc 1 then some (.getfield 189, 3, [12, 791, 0], .inl 0, []) else none
    else
     bif Nat.beq pc 0 then some (.aload_n 0, 1, [], .inl 0, []) else none
def kX12_permit (pc : Nat) : Option Ent := bif Nat.ble 147 pc then none else
 bif Nat.ble 76 pc then
  bif Nat.ble 117 pc then
   bif Nat.ble 131 pc then
    bif Nat.ble 139 pc then
     bif Nat.ble 144 pc then
      bif Nat.ble 145 pc then
       bif Nat.ble 146 pc then
        bif Nat.beq pc 146 then some (.ireturn, 1, [], .inl 0, []) else none
       else
        bif Nat.beq pc 145 then some (.iaload, 1, [], .inl 0, []) else none
      else
       bif Nat.beq pc 144 then some (.iload_n 1, 1, [], .inl 0, []) else none
     else
      bif Nat.ble 140 pc then
       bif Nat.ble 141 pc then
        bif Nat.beq pc 141 then some (.getfield 54, 3, [12, 785, 2], .inl 0, []) else none
       else
        bif Nat.beq pc 140 then some (.aload_n 0, 1, [], .inl 0, []) else none
      else
       bif Nat.beq pc 139 then some (.iastore, 1, [], .inl 0, []) else none
    else
     bif Nat.ble 136 pc then
      bif Nat.ble 137 pc then
       bif Nat.ble 138 pc then
        bif Nat.beq pc 138 then some (.iadd, 1, [], .inl 0, []) else none
       else
        bif Nat.beq pc 137 then some (.iconst 1, 1, [], .inl (1), []) else none
      else
       bif Nat.beq pc 136 then some (.iaload, 1, [], .inl 0, []) else none
     else
      bif Nat.ble 134 pc then
       bif Nat.ble 135 pc then
        bif Nat.beq pc 135 then some (.dup2, 1, [], .inl 0, []) else none
       else
        bif Nat.beq pc 134 then some (.iload_n 1, 1, [], .inl 0, []) else none
      else
       bif Nat.beq pc 131 then some (.getfield 54, 3, [12, 785, 2], .inl 0, []) else none
   else
    bif Nat.ble 124 pc then
     bif Nat.ble 127 pc then
      bif Nat.ble 129 pc then
       bif Nat.ble 130 pc then
        bif Nat.beq pc 130 then some (.aload_n 0, 1, [], .inl 0, []) else none
       else
        bif Nat.beq pc 129 then some (.iastore, 1, [], .inl 0, []) else none
      else
       bif Nat.beq pc 127 then some (.iload 4, 2, [], .inl 0, []) else none
     else
      bif Nat.ble 125 pc then
       bif Nat.ble 126 pc then
        bif Nat.beq pc 126 then some (.iadd, 1, [], .inl 0, []) else none
       else
        bif Nat.beq pc 125 then some (.iaload, 1, [], .inl 0, []) else none
      else
       bif Nat.beq pc 124 then some (.iload_n 1, 1, [], .inl 0, []) else none
    else
     bif Nat.ble 119 pc then
      bif Nat.ble 120 pc then
       bif Nat.ble 121 pc then
        bif Nat.beq pc 121 then some (.getfield 54, 3, [12, 785, 2], .inl 0, []) else none
       else
        bif Nat.beq pc 120 then some (.aload_n 0, 1, [], .inl 0, []) else none
      else
       bif Nat.beq pc 119 then some (.imul, 1, [], .inl 0, []) else none
     else
      bif Nat.ble 118 pc then
       bif Nat.beq pc 118 then some (.iload_n 1, 1, [], .inl 0, []) else none
      else
       bif Nat.beq pc 117 then some (.iconst 4, 1, [], .inl (4), []) else none
  else
   bif Nat.ble 99 pc then
    bif Nat.ble 106 pc then
     bif Nat.ble 112 pc then
      bif Nat.ble 113 pc then
       bif Nat.ble 114 pc then
        bif Nat.beq pc 114 then some (.getfield 57, 3, [12, 786, 2], .inl 0, []) else none
       else
        bif Nat.beq pc 113 then some (.aload_n 0, 1, [], .inl 0, []) else none
      else
       bif Nat.beq pc 112 then some (.ireturn, 1, [], .inl 0, []) else none
     else
      bif Nat.ble 107 pc then
       bif Nat.ble 110 pc then
        bif Nat.beq pc 110 then some (.bipush (-3), 2, [], .inl (-3), []) else none
       else
        bif Nat.beq pc 107 then some (.if_icmp .ne 6, 3, [], .inl 0, []) else none
      else
       bif Nat.beq pc 106 then some (.iconst 4, 1, [], .inl (4), []) else none
    else
     bif Nat.ble 101 pc then
      bif Nat.ble 104 pc then
       bif Nat.ble 105 pc then
        bif Nat.beq pc 105 then some (.iaload, 1, [], .inl 0, []) else none
       else
        bif Nat.beq pc 104 then some (.iload_n 1, 1, [], .inl 0, []) else none
      else
       bif Nat.beq pc 101 then some (.getfield 54, 3, [12, 785, 2], .inl 0, []) else none
     else
      bif Nat.ble 100 pc then
       bif Nat.beq pc 100 then some (.aload_n 0, 1, [], .inl 0, []) else none
      else
       bif Nat.beq pc 99 then some (.ireturn, 1, [], .inl 0, []) else none
   else
    bif Nat.ble 84 pc then
     bif Nat.ble 91 pc then
      bif Nat.ble 94 pc then
       bif Nat.ble 97 pc then
        bif Nat.beq pc 97 then some (.bipush (-2), 2, [], .inl (-2), []) else none
       else
        bif Nat.beq pc 94 then some (.ifCond .le 6, 3, [], .inl 0, []) else none
      else
       bif Nat.beq pc 91 then some (.getfield 189, 3, [12, 791, 0], .inl 0, []) else none
     else
      bif Nat.ble 87 pc then
       bif Nat.ble 90 pc then
        bif Nat.beq pc 90 then some (.aload_n 0, 1, [], .inl 0, []) else none
       else
        bif Nat.beq pc 87 then some (.goto (-32), 3, [], .inl 0, []) else none
      else
       bif Nat.beq pc 84 then some (.iinc 5 1, 3, [], .inl (1), []) else none
    else
     bif Nat.ble 79 pc then
      bif Nat.ble 82 pc then
       bif Nat.ble 83 pc then
        bif Nat.beq pc 83 then some (.ireturn, 1, [], .inl 0, []) else none
       else
        bif Nat.beq pc 82 then some (.iconst (-1), 1, [], .inl (-1), []) else none
      else
       bif Nat.beq pc 79 then some (.if_icmp .ne 5, 3, [], .inl 0, []) else none
     else
      bif Nat.ble 77 pc then
       bif Nat.beq pc 77 then some (.iload 4, 2, [], .inl 0, []) else none
      else
       bif Nat.beq pc 76 then some (.iaload, 1, [], .inl 0, []) else none
 else
  bif Nat.ble 38 pc then
   bif Nat.ble 57 pc then
    bif Nat.ble 67 pc then
     bif Nat.ble 72 pc then
      bif Nat.ble 73 pc then
       bif Nat.ble 75 pc then
        bif Nat.beq pc 75 then some (.iadd, 1, [], .inl 0, []) else none
       else
        bif Nat.beq pc 73 then some (.iload 5, 2, [], .inl 0, []) else none
      else
       bif Nat.beq pc 72 then some (.imul, 1, [], .inl 0, []) else none
     else
      bif Nat.ble 70 pc then
       bif Nat.ble 71 pc then
        bif Nat.beq pc 71 then some (.iload_n 1, 1, [], .inl 0, []) else none
       else
        bif Nat.beq pc 70 then some (.iconst 4, 1, [], .inl (4), []) else none
      else
       bif Nat.beq pc 67 then some (.getfield 57, 3, [12, 786, 2], .inl 0, []) else none
    else
     bif Nat.ble 62 pc then
      bif Nat.ble 63 pc then
       bif Nat.ble 66 pc then
        bif Nat.beq pc 66 then some (.aload_n 0, 1, [], .inl 0, []) else none
       else
        bif Nat.beq pc 63 then some (.if_icmp .ge 27, 3, [], .inl 0, []) else none
      else
       bif Nat.beq pc 62 then some (.iaload, 1, [], .inl 0, []) else none
     else
      bif Nat.ble 58 pc then
       bif Nat.ble 61 pc then
        bif Nat.beq pc 61 then some (.iload_n 1, 1, [], .inl 0, []) else none
       else
        bif Nat.beq pc 58 then some (.getfield 54, 3, [12, 785, 2], .inl 0, []) else none
      else
       bif Nat.beq pc 57 then some (.aload_n 0, 1, [], .inl 0, []) else none
   else
    bif Nat.ble 46 pc then
     bif Nat.ble 52 pc then
      bif Nat.ble 53 pc then
       bif Nat.ble 55 pc then
        bif Nat.beq pc 55 then some (.iload 5, 2, [], .inl 0, [2, 3]) else none
       else
        bif Nat.beq pc 53 then some (.istore 5, 2, [], .inl 0, []) else none
      else
       bif Nat.beq pc 52 then some (.iconst 0, 1, [], .inl (0), []) else none
     else
      bif Nat.ble 49 pc then
       bif Nat.ble 50 pc then
        bif Nat.beq pc 50 then some (.istore 4, 2, [], .inl 0, []) else none
       else
        bif Nat.beq pc 49 then some (.iload_n 3, 1, [], .inl 0, []) else none
      else
       bif Nat.beq pc 46 then some (.goto 4, 3, [], .inl 0, []) else none
    else
     bif Nat.ble 42 pc then
      bif Nat.ble 44 pc then
       bif Nat.ble 45 pc then
        bif Nat.beq pc 45 then some (.iadd, 1, [], .inl 0, []) else none
       else
        bif Nat.beq pc 44 then some (.iload_n 3, 1, [], .inl 0, []) else none
      else
       bif Nat.beq pc 42 then some (.bipush 10, 2, [], .inl (10), []) else none
     else
      bif Nat.ble 39 pc then
       bif Nat.beq pc 39 then some (.ifCond .eq 10, 3, [], .inl 0, []) else none
      else
       bif Nat.beq pc 38 then some (.iload_n 2, 1, [], .inl 0, []) else none
  else
   bif Nat.ble 17 pc then
    bif Nat.ble 28 pc then
     bif Nat.ble 33 pc then
      bif Nat.ble 36 pc then
       bif Nat.ble 37 pc then
        bif Nat.beq pc 37 then some (.ireturn, 1, [], .inl 0, []) else none
       else
        bif Nat.beq pc 36 then some (.iconst (-1), 1, [], .inl (-1), []) else none
      else
       bif Nat.beq pc 33 then some (.ifCond .ne 5, 3, [], .inl 0, []) else none
     else
      bif Nat.ble 29 pc then
       bif Nat.ble 30 pc then
        bif Nat.beq pc 30 then some (.invokevirtual 183, 3, [161, 2, 1, 2, 12], .inl 0, []) else none
       else
        bif Nat.beq pc 29 then some (.iload_n 3, 1, [], .inl 0, []) else none
      else
       bif Nat.beq pc 28 then some (.aload_n 0, 1, [], .inl 0, []) else none
    else
     bif Nat.ble 19 pc then
      bif Nat.ble 22 pc then
       bif Nat.ble 25 pc then
        bif Nat.beq pc 25 then some (.goto 11, 3, [], .inl 0, []) else none
       else
        bif Nat.beq pc 22 then some (.ifCond .ne 16, 3, [], .inl 0, []) else none
      else
       bif Nat.beq pc 19 then some (.invokestatic 169, 3, [157, 3, 1, 6, 100], .inl 0, []) else none
     else
      bif Nat.ble 18 pc then
       bif Nat.beq pc 18 then some (.i2l, 1, [], .inl 0, []) else none
      else
       bif Nat.beq pc 17 then some (.isub, 1, [], .inl 0, []) else none
   else
    bif Nat.ble 9 pc then
     bif Nat.ble 14 pc then
      bif Nat.ble 15 pc then
       bif Nat.ble 16 pc then
        bif Nat.beq pc 16 then some (.iconst 1, 1, [], .inl (1), []) else none
       else
        bif Nat.beq pc 15 then some (.iload_n 1, 1, [], .inl 0, []) else none
      else
       bif Nat.beq pc 14 then some (.lconst 0, 1, [], .inr (.inl (0)), []) else none
     else
      bif Nat.ble 12 pc then
       bif Nat.ble 13 pc then
        bif Nat.beq pc 13 then some (.i2l, 1, [], .inl 0, []) else none
       else
        bif Nat.beq pc 12 then some (.iload_n 3, 1, [], .inl 0, []) else none
      else
       bif Nat.beq pc 9 then some (.ifCond .eq 19, 3, [], .inl 0, []) else none
    else
     bif Nat.ble 2 pc then
      bif Nat.ble 5 pc then
       bif Nat.ble 8 pc then
        bif Nat.beq pc 8 then some (.iload_n 2, 1, [], .inl 0, []) else none
       else
        bif Nat.beq pc 5 then some (.ifCond .eq 31, 3, [], .inl 0, []) else none
      else
       bif Nat.beq pc 2 then some (.invokevirtual 204, 3, [163, 2, 1, 2, 12], .inl 0, []) else none
     else
      bif Nat.ble 1 pc then
       bif Nat.beq pc 1 then some (.iload_n 1, 1, [], .inl 0, []) else none
      else
       bif Nat.beq pc 0 then some (.aload_n 0, 1, [], .inl 0, []) else none
def kX12_findLeaves (pc : Nat) : Option Ent := bif Nat.ble 122 pc then none else
 bif Nat.ble 57 pc then
  bif Nat.ble 89 pc then
   bif Nat.ble 106 pc then
    bif Nat.ble 113 pc then
     bif Nat.ble 115 pc then
      bif Nat.ble 118 pc then
       bif Nat.ble 121 pc then
        bif Nat.beq pc 121 then some (.return_, 1, [], .inl 0, []) else none
       else
        bif Nat.beq pc 118 then some (.goto (-99), 3, [], .inl 0, []) else none
      else
       bif Nat.beq pc 115 then some (.putfield 207, 3, [12, 788, 0], .inl 0, []) else none
     else
      bif Nat.ble 114 pc then
       bif Nat.beq pc 114 then some (.iadd, 1, [], .inl 0, []) else none
      else
       bif Nat.beq pc 113 then some (.iconst 1, 1, [], .inl (1), []) else none
    else
     bif Nat.ble 108 pc then
      bif Nat.ble 109 pc then
       bif Nat.ble 110 pc then
        bif Nat.beq pc 110 then some (.getfield 207, 3, [12, 788, 0], .inl 0, []) else none
       else
        bif Nat.beq pc 109 then some (.dup, 1, [], .inl 0, []) else none
      else
       bif Nat.beq pc 108 then some (.aload_n 0, 1, [], .inl 0, []) else none
     else
      bif Nat.ble 107 pc then
       bif Nat.beq pc 107 then some (.iastore, 1, [], .inl 0, []) else none
      else
       bif Nat.beq pc 106 then some (.iload_n 3, 1, [], .inl 0, []) else none
   else
    bif Nat.ble 95 pc then
     bif Nat.ble 99 pc then
      bif Nat.ble 102 pc then
       bif Nat.ble 103 pc then
        bif Nat.beq pc 103 then some (.getfield 207, 3, [12, 788, 0], .inl 0, []) else none
       else
        bif Nat.beq pc 102 then some (.aload_n 0, 1, [], .inl 0, []) else none
      else
       bif Nat.beq pc 99 then some (.getfield 60, 3, [12, 787, 2], .inl 0, []) else none
     else
      bif Nat.ble 98 pc then
       bif Nat.beq pc 98 then some (.aload_n 0, 1, [], .inl 0, []) else none
      else
       bif Nat.beq pc 95 then some (.if_icmp .ne 23, 3, [], .inl 0, []) else none
    else
     bif Nat.ble 91 pc then
      bif Nat.ble 94 pc then
       bif Nat.beq pc 94 then some (.iconst (-1), 1, [], .inl (-1), []) else none
      else
       bif Nat.beq pc 91 then some (.invokevirtual 210, 3, [173, 2, 1, 3, 12], .inl 0, []) else none
     else
      bif Nat.ble 90 pc then
       bif Nat.beq pc 90 then some (.iload_n 3, 1, [], .inl 0, []) else none
      else
       bif Nat.beq pc 89 then some (.aload_n 0, 1, [], .inl 0, []) else none
  else
   bif Nat.ble 71 pc then
    bif Nat.ble 76 pc then
     bif Nat.ble 80 pc then
      bif Nat.ble 83 pc then
       bif Nat.ble 86 pc then
        bif Nat.beq pc 86 then some (.goto 32, 3, [], .inl 0, []) else none
       else
        bif Nat.beq pc 83 then some (.goto (-31), 3, [], .inl 0, []) else none
      else
       bif Nat.beq pc 80 then some (.iinc 4 (-1), 3, [], .inl (-1), []) else none
     else
      bif Nat.ble 77 pc then
       bif Nat.beq pc 77 then some (.iinc 2 1, 3, [], .inl (1), []) else none
      else
       bif Nat.beq pc 76 then some (.iastore, 1, [], .inl 0, []) else none
    else
     bif Nat.ble 74 pc then
      bif Nat.ble 75 pc then
       bif Nat.beq pc 75 then some (.iaload, 1, [], .inl 0, []) else none
      else
       bif Nat.beq pc 74 then some (.iadd, 1, [], .inl 0, []) else none
     else
      bif Nat.ble 72 pc then
       bif Nat.beq pc 72 then some (.iload 4, 2, [], .inl 0, []) else none
      else
       bif Nat.beq pc 71 then some (.imul, 1, [], .inl 0, []) else none
   else
    bif Nat.ble 63 pc then
     bif Nat.ble 67 pc then
      bif Nat.ble 68 pc then
       bif Nat.ble 70 pc then
        bif Nat.beq pc 70 then some (.isub, 1, [], .inl 0, []) else none
       else
        bif Nat.beq pc 68 then some (.bipush 10, 2, [], .inl (10), []) else none
      else
       bif Nat.beq pc 67 then some (.iload_n 3, 1, [], .inl 0, []) else none
     else
      bif Nat.ble 66 pc then
       bif Nat.beq pc 66 then some (.iconst 4, 1, [], .inl (4), []) else none
      else
       bif Nat.beq pc 63 then some (.getfield 57, 3, [12, 786, 2], .inl 0, []) else none
    else
     bif Nat.ble 61 pc then
      bif Nat.ble 62 pc then
       bif Nat.beq pc 62 then some (.aload_n 0, 1, [], .inl 0, []) else none
      else
       bif Nat.beq pc 61 then some (.iload_n 2, 1, [], .inl 0, []) else none
     else
      bif Nat.ble 58 pc then
       bif Nat.beq pc 58 then some (.getfield 63, 3, [12, 789, 2], .inl 0, []) else none
      else
       bif Nat.beq pc 57 then some (.aload_n 0, 1, [], .inl 0, []) else none
 else
  bif Nat.ble 27 pc then
   bif Nat.ble 43 pc then
    bif Nat.ble 48 pc then
     bif Nat.ble 50 pc then
      bif Nat.ble 52 pc then
       bif Nat.ble 54 pc then
        bif Nat.beq pc 54 then some (.ifCond .lt 32, 3, [], .inl 0, []) else none
       else
        bif Nat.beq pc 52 then some (.iload 4, 2, [], .inl 0, [1]) else none
      else
       bif Nat.beq pc 50 then some (.istore 4, 2, [], .inl 0, []) else none
     else
      bif Nat.ble 49 pc then
       bif Nat.beq pc 49 then some (.isub, 1, [], .inl 0, []) else none
      else
       bif Nat.beq pc 48 then some (.iconst 1, 1, [], .inl (1), []) else none
    else
     bif Nat.ble 46 pc then
      bif Nat.ble 47 pc then
       bif Nat.beq pc 47 then some (.iaload, 1, [], .inl 0, []) else none
      else
       bif Nat.beq pc 46 then some (.isub, 1, [], .inl 0, []) else none
     else
      bif Nat.ble 44 pc then
       bif Nat.beq pc 44 then some (.bipush 10, 2, [], .inl (10), []) else none
      else
       bif Nat.beq pc 43 then some (.iload_n 3, 1, [], .inl 0, []) else none
   else
    bif Nat.ble 33 pc then
     bif Nat.ble 36 pc then
      bif Nat.ble 39 pc then
       bif Nat.ble 40 pc then
        bif Nat.beq pc 40 then some (.getfield 54, 3, [12, 785, 2], .inl 0, []) else none
       else
        bif Nat.beq pc 39 then some (.aload_n 0, 1, [], .inl 0, []) else none
      else
       bif Nat.beq pc 36 then some (.if_icmp .lt 53, 3, [], .inl 0, []) else none
     else
      bif Nat.ble 34 pc then
       bif Nat.beq pc 34 then some (.bipush 10, 2, [], .inl (10), []) else none
      else
       bif Nat.beq pc 33 then some (.iload_n 3, 1, [], .inl 0, []) else none
    else
     bif Nat.ble 31 pc then
      bif Nat.ble 32 pc then
       bif Nat.beq pc 32 then some (.istore_n 3, 1, [], .inl 0, []) else none
      else
       bif Nat.beq pc 31 then some (.iaload, 1, [], .inl 0, []) else none
     else
      bif Nat.ble 30 pc then
       bif Nat.beq pc 30 then some (.iload_n 2, 1, [], .inl 0, []) else none
      else
       bif Nat.beq pc 27 then some (.getfield 63, 3, [12, 789, 2], .inl 0, []) else none
  else
   bif Nat.ble 14 pc then
    bif Nat.ble 18 pc then
     bif Nat.ble 20 pc then
      bif Nat.ble 23 pc then
       bif Nat.ble 26 pc then
        bif Nat.beq pc 26 then some (.aload_n 0, 1, [], .inl 0, []) else none
       else
        bif Nat.beq pc 23 then some (.iinc 2 (-1), 3, [], .inl (-1), []) else none
      else
       bif Nat.beq pc 20 then some (.ifCond .le 101, 3, [], .inl 0, []) else none
     else
      bif Nat.ble 19 pc then
       bif Nat.beq pc 19 then some (.iload_n 2, 1, [], .inl 0, [1, 3, 4]) else none
      else
       bif Nat.beq pc 18 then some (.istore_n 2, 1, [], .inl 0, []) else none
    else
     bif Nat.ble 16 pc then
      bif Nat.ble 17 pc then
       bif Nat.beq pc 17 then some (.iconst 1, 1, [], .inl (1), []) else none
      else
       bif Nat.beq pc 16 then some (.iastore, 1, [], .inl 0, []) else none
     else
      bif Nat.ble 15 pc then
       bif Nat.beq pc 15 then some (.iadd, 1, [], .inl 0, []) else none
      else
       bif Nat.beq pc 14 then some (.iload_n 1, 1, [], .inl 0, []) else none
   else
    bif Nat.ble 6 pc then
     bif Nat.ble 8 pc then
      bif Nat.ble 11 pc then
       bif Nat.ble 12 pc then
        bif Nat.beq pc 12 then some (.bipush 10, 2, [], .inl (10), []) else none
       else
        bif Nat.beq pc 11 then some (.iconst 0, 1, [], .inl (0), []) else none
      else
       bif Nat.beq pc 8 then some (.getfield 63, 3, [12, 789, 2], .inl 0, []) else none
     else
      bif Nat.ble 7 pc then
       bif Nat.beq pc 7 then some (.aload_n 0, 1, [], .inl 0, []) else none
      else
       bif Nat.beq pc 6 then some (.istore_n 2, 1, [], .inl 0, []) else none
    else
     bif Nat.ble 2 pc then
      bif Nat.ble 5 pc then
       bif Nat.beq pc 5 then some (.iconst 0, 1, [], .inl (0), []) else none
      else
       bif Nat.beq pc 2 then some (.putfield 207, 3, [12, 788, 0], .inl 0, []) else none
     else
      bif Nat.ble 1 pc then
       bif Nat.beq pc 1 then some (.iconst 0, 1, [], .inl (0), []) else none
      else
       bif Nat.beq pc 0 then some (.aload_n 0, 1, [], .inl 0, []) else none
def kX12_tagOf (pc : Nat) : Option Ent := bif Nat.ble 30 pc then none else
 bif Nat.ble 15 pc then
  bif Nat.ble 21 pc then
   bif Nat.ble 25 pc then
    bif Nat.ble 28 pc then
     bif Nat.ble 29 pc then
      bif Nat.beq pc 29 then some (.ireturn, 1, [], .inl 0, []) else none
     else
      bif Nat.beq pc 28 then some (.iconst (-1), 1, [], .inl (-1), []) else none
    else
     bif Nat.beq pc 25 then some (.goto (-23), 3, [], .inl 0, []) else none
   else
    bif Nat.ble 22 pc then
     bif Nat.beq pc 22 then some (.iinc 2 1, 3, [], .inl (1), []) else none
    else
     bif Nat.beq pc 21 then some (.ireturn, 1, [], .inl 0, []) else none
  else
   bif Nat.ble 17 pc then
    bif Nat.ble 20 pc then
     bif Nat.beq pc 20 then some (.iload_n 2, 1, [], .inl 0, []) else none
    else
     bif Nat.beq pc 17 then some (.if_icmp .ne 5, 3, [], .inl 0, []) else none
   else
    bif Nat.ble 16 pc then
     bif Nat.beq pc 16 then some (.iload_n 1, 1, [], .inl 0, []) else none
    else
     bif Nat.beq pc 15 then some (.iaload, 1, [], .inl 0, []) else none
 else
  bif Nat.ble 4 pc then
   bif Nat.ble 10 pc then
    bif Nat.ble 11 pc then
     bif Nat.ble 14 pc then
      bif Nat.beq pc 14 then some (.iload_n 2, 1, [], .inl 0, []) else none
     else
      bif Nat.beq pc 11 then some (.getfield 60, 3, [12, 787, 2], .inl 0, []) else none
    else
     bif Nat.beq pc 10 then some (.aload_n 0, 1, [], .inl 0, []) else none
   else
    bif Nat.ble 7 pc then
     bif Nat.beq pc 7 then some (.if_icmp .ge 21, 3, [], .inl 0, []) else none
    else
     bif Nat.beq pc 4 then some (.getfield 207, 3, [12, 788, 0], .inl 0, []) else none
  else
   bif Nat.ble 2 pc then
    bif Nat.ble 3 pc then
     bif Nat.beq pc 3 then some (.aload_n 0, 1, [], .inl 0, []) else none
    else
     bif Nat.beq pc 2 then some (.iload_n 2, 1, [], .inl 0, []) else none
   else
    bif Nat.ble 1 pc then
     bif Nat.beq pc 1 then some (.istore_n 2, 1, [], .inl 0, []) else none
    else
     bif Nat.beq pc 0 then some (.iconst 0, 1, [], .inl (0), []) else none
def kX12_isOfFamily (pc : Nat) : Option Ent := bif Nat.ble 20 pc then none else
 bif Nat.ble 10 pc then
  bif Nat.ble 15 pc then
   bif Nat.ble 18 pc then
    bif Nat.ble 19 pc then
     bif Nat.beq pc 19 then some (.ireturn, 1, [1], .inl 0, []) else none
    else
     bif Nat.beq pc 18 then some (.iconst 0, 1, [], .inl (0), []) else none
   else
    bif Nat.beq pc 15 then some (.goto 4, 3, [], .inl 0, []) else none
  else
   bif Nat.ble 11 pc then
    bif Nat.ble 14 pc then
     bif Nat.beq pc 14 then some (.iconst 1, 1, [], .inl (1), []) else none
    else
     bif Nat.beq pc 11 then some (.if_icmp .eq 7, 3, [], .inl 0, []) else none
   else
    bif Nat.beq pc 10 then some (.iconst (-1), 1, [], .inl (-1), []) else none
 else
  bif Nat.ble 5 pc then
   bif Nat.ble 6 pc then
    bif Nat.ble 7 pc then
     bif Nat.beq pc 7 then some (.invokevirtual 210, 3, [173, 2, 1, 3, 12], .inl 0, []) else none
    else
     bif Nat.beq pc 6 then some (.iload_n 1, 1, [], .inl 0, []) else none
   else
    bif Nat.beq pc 5 then some (.aload_n 0, 1, [], .inl 0, []) else none
  else
   bif Nat.ble 1 pc then
    bif Nat.ble 2 pc then
     bif Nat.beq pc 2 then some (.invokevirtual 214, 3, [172, 2, 0, 5, 12], .inl 0, []) else none
    else
     bif Nat.beq pc 1 then some (.iload_n 2, 1, [], .inl 0, []) else none
   else
    bif Nat.beq pc 0 then some (.aload_n 0, 1, [], .inl 0, []) else none
def kX12_record (pc : Nat) : Option Ent := bif Nat.ble 39 pc then none else
 bif Nat.ble 22 pc then
  bif Nat.ble 29 pc then
   bif Nat.ble 36 pc then
    bif Nat.ble 37 pc then
     bif Nat.ble 38 pc then
      bif Nat.beq pc 38 then some (.ireturn, 1, [], .inl 0, []) else none
     else
      bif Nat.beq pc 37 then some (.isub, 1, [], .inl 0, []) else none
    else
     bif Nat.beq pc 36 then some (.iconst 1, 1, [], .inl (1), []) else none
   else
    bif Nat.ble 32 pc then
     bif Nat.ble 33 pc then
      bif Nat.beq pc 33 then some (.getfield 180, 3, [12, 773, 0], .inl 0, []) else none
     else
      bif Nat.beq pc 32 then some (.aload_n 0, 1, [], .inl 0, []) else none
    else
     bif Nat.beq pc 29 then some (.putfield 180, 3, [12, 773, 0], .inl 0, []) else none
  else
   bif Nat.ble 24 pc then
    bif Nat.ble 27 pc then
     bif Nat.ble 28 pc then
      bif Nat.beq pc 28 then some (.iadd, 1, [], .inl 0, []) else none
     else
      bif Nat.beq pc 27 then some (.iconst 1, 1, [], .inl (1), []) else none
    else
     bif Nat.beq pc 24 then some (.getfield 180, 3, [12, 773, 0], .inl 0, []) else none
   else
    bif Nat.ble 23 pc then
     bif Nat.beq pc 23 then some (.dup, 1, [], .inl 0, []) else none
    else
     bif Nat.beq pc 22 then some (.aload_n 0, 1, [], .inl 0, []) else none
 else
  bif Nat.ble 10 pc then
   bif Nat.ble 16 pc then
    bif Nat.ble 19 pc then
     bif Nat.ble 21 pc then
      bif Nat.beq pc 21 then some (.ireturn, 1, [], .inl 0, []) else none
     else
      bif Nat.beq pc 19 then some (.bipush (-3), 2, [], .inl (-3), []) else none
    else
     bif Nat.beq pc 16 then some (.if_icmp .ne 6, 3, [], .inl 0, []) else none
   else
    bif Nat.ble 11 pc then
     bif Nat.ble 14 pc then
      bif Nat.beq pc 14 then some (.bipush 6, 2, [], .inl (6), []) else none
     else
      bif Nat.beq pc 11 then some (.getfield 180, 3, [12, 773, 0], .inl 0, []) else none
    else
     bif Nat.beq pc 10 then some (.aload_n 0, 1, [], .inl 0, []) else none
  else
   bif Nat.ble 4 pc then
    bif Nat.ble 7 pc then
     bif Nat.ble 9 pc then
      bif Nat.beq pc 9 then some (.ireturn, 1, [], .inl 0, []) else none
     else
      bif Nat.beq pc 7 then some (.bipush (-2), 2, [], .inl (-2), []) else none
    else
     bif Nat.beq pc 4 then some (.ifCond .le 6, 3, [], .inl 0, []) else none
   else
    bif Nat.ble 1 pc then
     bif Nat.beq pc 1 then some (.getfield 189, 3, [12, 791, 0], .inl 0, []) else none
    else
     bif Nat.beq pc 0 then some (.aload_n 0, 1, [], .inl 0, []) else none
def kX12_isSort (pc : Nat) : Option Ent := bif Nat.ble 72 pc then none else
 bif Nat.ble 34 pc then
  bif Nat.ble 52 pc then
   bif Nat.ble 63 pc then
    bif Nat.ble 67 pc then
     bif Nat.ble 70 pc then
      bif Nat.ble 71 pc then
       bif Nat.beq pc 71 then some (.ireturn, 1, [1], .inl 0, []) else none
      else
       bif Nat.beq pc 70 then some (.iconst 0, 1, [], .inl (0), []) else none
     else
      bif Nat.beq pc 67 then some (.goto 4, 3, [], .inl 0, []) else none
    else
     bif Nat.ble 66 pc then
      bif Nat.beq pc 66 then some (.iconst 1, 1, [], .inl (1), []) else none
     else
      bif Nat.beq pc 63 then some (.ifCond .eq 7, 3, [], .inl 0, []) else none
   else
    bif Nat.ble 58 pc then
     bif Nat.ble 59 pc then
      bif Nat.ble 60 pc then
       bif Nat.beq pc 60 then some (.invokevirtual 204, 3, [163, 2, 1, 2, 12], .inl 0, []) else none
      else
       bif Nat.beq pc 59 then some (.iload_n 2, 1, [], .inl 0, []) else none
     else
      bif Nat.beq pc 58 then some (.aload_n 0, 1, [], .inl 0, []) else none
    else
     bif Nat.ble 55 pc then
      bif Nat.beq pc 55 then some (.goto 11, 3, [], .inl 0, []) else none
     else
      bif Nat.beq pc 52 then some (.ifCond .eq 18, 3, [], .inl 0, []) else none
  else
   bif Nat.ble 43 pc then
    bif Nat.ble 45 pc then
     bif Nat.ble 46 pc then
      bif Nat.ble 49 pc then
       bif Nat.beq pc 49 then some (.invokestatic 169, 3, [157, 3, 1, 6, 100], .inl 0, []) else none
      else
       bif Nat.beq pc 46 then some (.ldc2_w 220, 3, [], .inr (.inl (7)), []) else none
     else
      bif Nat.beq pc 45 then some (.lconst 0, 1, [], .inr (.inl (0)), []) else none
    else
     bif Nat.ble 44 pc then
      bif Nat.beq pc 44 then some (.i2l, 1, [], .inl 0, []) else none
     else
      bif Nat.beq pc 43 then some (.iload_n 2, 1, [], .inl 0, []) else none
   else
    bif Nat.ble 38 pc then
     bif Nat.ble 40 pc then
      bif Nat.beq pc 40 then some (.if_icmp .ne 18, 3, [], .inl 0, []) else none
     else
      bif Nat.beq pc 38 then some (.bipush 10, 2, [], .inl (10), []) else none
    else
     bif Nat.ble 37 pc then
      bif Nat.beq pc 37 then some (.iload_n 1, 1, [], .inl 0, []) else none
     else
      bif Nat.beq pc 34 then some (.goto 32, 3, [], .inl 0, []) else none
 else
  bif Nat.ble 15 pc then
   bif Nat.ble 23 pc then
    bif Nat.ble 27 pc then
     bif Nat.ble 28 pc then
      bif Nat.ble 31 pc then
       bif Nat.beq pc 31 then some (.ifCond .eq 39, 3, [], .inl 0, []) else none
      else
       bif Nat.beq pc 28 then some (.invokevirtual 176, 3, [159, 2, 1, 2, 12], .inl 0, []) else none
     else
      bif Nat.beq pc 27 then some (.iload_n 2, 1, [], .inl 0, []) else none
    else
     bif Nat.ble 26 pc then
      bif Nat.beq pc 26 then some (.aload_n 0, 1, [], .inl 0, []) else none
     else
      bif Nat.beq pc 23 then some (.if_icmp .ge 14, 3, [], .inl 0, []) else none
   else
    bif Nat.ble 20 pc then
     bif Nat.ble 21 pc then
      bif Nat.beq pc 21 then some (.bipush 10, 2, [], .inl (10), []) else none
     else
      bif Nat.beq pc 20 then some (.iload_n 1, 1, [], .inl 0, []) else none
    else
     bif Nat.ble 17 pc then
      bif Nat.beq pc 17 then some (.if_icmp .lt 49, 3, [], .inl 0, []) else none
     else
      bif Nat.beq pc 15 then some (.bipush 8, 2, [], .inl (8), []) else none
  else
   bif Nat.ble 6 pc then
    bif Nat.ble 12 pc then
     bif Nat.ble 13 pc then
      bif Nat.ble 14 pc then
       bif Nat.beq pc 14 then some (.iload_n 1, 1, [], .inl 0, []) else none
      else
       bif Nat.beq pc 13 then some (.ireturn, 1, [1], .inl 0, []) else none
     else
      bif Nat.beq pc 12 then some (.iconst 0, 1, [], .inl (0), []) else none
    else
     bif Nat.ble 9 pc then
      bif Nat.beq pc 9 then some (.ifCond .ne 5, 3, [], .inl 0, []) else none
     else
      bif Nat.beq pc 6 then some (.invokestatic 169, 3, [157, 3, 1, 6, 100], .inl 0, []) else none
   else
    bif Nat.ble 2 pc then
     bif Nat.ble 3 pc then
      bif Nat.beq pc 3 then some (.ldc2_w 218, 3, [], .inr (.inl (11)), []) else none
     else
      bif Nat.beq pc 2 then some (.lconst 0, 1, [], .inr (.inl (0)), []) else none
    else
     bif Nat.ble 1 pc then
      bif Nat.beq pc 1 then some (.i2l, 1, [], .inl 0, []) else none
     else
      bif Nat.beq pc 0 then some (.iload_n 1, 1, [], .inl 0, []) else none
def kX12_fromBits (pc : Nat) : Option Ent := bif Nat.ble 121 pc then none else
 bif Nat.ble 76 pc then
  bif Nat.ble 97 pc then
   bif Nat.ble 108 pc then
    bif Nat.ble 117 pc then
     bif Nat.ble 119 pc then
      bif Nat.ble 120 pc then
       bif Nat.beq pc 120 then some (.lreturn, 1, [], .inl 0, []) else none
      else
       bif Nat.beq pc 119 then some (.lload_n 1, 1, [], .inl 0, []) else none
     else
      bif Nat.ble 118 pc then
       bif Nat.beq pc 118 then some (.lreturn, 1, [], .inl 0, []) else none
      else
       bif Nat.beq pc 117 then some (.lload_n 1, 1, [], .inl 0, []) else none
    else
     bif Nat.ble 111 pc then
      bif Nat.ble 114 pc then
       bif Nat.beq pc 114 then some (.goto 4, 3, [], .inl 0, []) else none
      else
       bif Nat.beq pc 111 then some (.ldc2_w 230, 3, [], .inr (.inl (9221120237041090560)), []) else none
     else
      bif Nat.beq pc 108 then some (.ifCond .le 9, 3, [], .inl 0, []) else none
   else
    bif Nat.ble 100 pc then
     bif Nat.ble 104 pc then
      bif Nat.ble 107 pc then
       bif Nat.beq pc 107 then some (.lcmp, 1, [], .inl 0, []) else none
      else
       bif Nat.beq pc 104 then some (.ldc2_w 228, 3, [], .inr (.inl (9218868437227405312)), []) else none
     else
      bif Nat.ble 103 pc then
       bif Nat.beq pc 103 then some (.land, 1, [], .inl 0, []) else none
      else
       bif Nat.beq pc 100 then some (.ldc2_w 226, 3, [], .inr (.inl (9223372036854775807)), []) else none
    else
     bif Nat.ble 98 pc then
      bif Nat.ble 99 pc then
       bif Nat.beq pc 99 then some (.lload_n 1, 1, [], .inl 0, []) else none
      else
       bif Nat.beq pc 98 then some (.lreturn, 1, [], .inl 0, []) else none
     else
      bif Nat.beq pc 97 then some (.i2l, 1, [], .inl 0, []) else none
  else
   bif Nat.ble 83 pc then
    bif Nat.ble 89 pc then
     bif Nat.ble 95 pc then
      bif Nat.ble 96 pc then
       bif Nat.beq pc 96 then some (.l2i, 1, [], .inl 0, []) else none
      else
       bif Nat.beq pc 95 then some (.lload_n 1, 1, [], .inl 0, []) else none
     else
      bif Nat.ble 92 pc then
       bif Nat.beq pc 92 then some (.goto 6, 3, [], .inl 0, []) else none
      else
       bif Nat.beq pc 89 then some (.ldc2_w 224, 3, [], .inr (.inl (2143289344)), []) else none
    else
     bif Nat.ble 84 pc then
      bif Nat.ble 86 pc then
       bif Nat.beq pc 86 then some (.if_icmp .le 9, 3, [], .inl 0, []) else none
      else
       bif Nat.beq pc 84 then some (.ldc 223, 2, [], .inl (2139095040), []) else none
     else
      bif Nat.beq pc 83 then some (.iand, 1, [], .inl 0, []) else none
   else
    bif Nat.ble 79 pc then
     bif Nat.ble 80 pc then
      bif Nat.ble 81 pc then
       bif Nat.beq pc 81 then some (.ldc 222, 2, [], .inl (2147483647), []) else none
      else
       bif Nat.beq pc 80 then some (.l2i, 1, [], .inl 0, []) else none
     else
      bif Nat.beq pc 79 then some (.lload_n 1, 1, [], .inl 0, []) else none
    else
     bif Nat.ble 77 pc then
      bif Nat.ble 78 pc then
       bif Nat.beq pc 78 then some (.lreturn, 1, [], .inl 0, []) else none
      else
       bif Nat.beq pc 77 then some (.i2l, 1, [], .inl 0, []) else none
     else
      bif Nat.beq pc 76 then some (.l2i, 1, [], .inl 0, []) else none
 else
  bif Nat.ble 63 pc then
   bif Nat.ble 69 pc then
    bif Nat.ble 72 pc then
     bif Nat.ble 74 pc then
      bif Nat.ble 75 pc then
       bif Nat.beq pc 75 then some (.lload_n 1, 1, [], .inl 0, []) else none
      else
       bif Nat.beq pc 74 then some (.lreturn, 1, [], .inl 0, []) else none
     else
      bif Nat.ble 73 pc then
       bif Nat.beq pc 73 then some (.i2l, 1, [], .inl 0, []) else none
      else
       bif Nat.beq pc 72 then some (.i2c, 1, [], .inl 0, []) else none
    else
     bif Nat.ble 70 pc then
      bif Nat.ble 71 pc then
       bif Nat.beq pc 71 then some (.l2i, 1, [], .inl 0, []) else none
      else
       bif Nat.beq pc 70 then some (.lload_n 1, 1, [], .inl 0, []) else none
     else
      bif Nat.beq pc 69 then some (.lreturn, 1, [], .inl 0, []) else none
   else
    bif Nat.ble 66 pc then
     bif Nat.ble 67 pc then
      bif Nat.ble 68 pc then
       bif Nat.beq pc 68 then some (.i2l, 1, [], .inl 0, []) else none
      else
       bif Nat.beq pc 67 then some (.i2s, 1, [], .inl 0, []) else none
     else
      bif Nat.beq pc 66 then some (.l2i, 1, [], .inl 0, []) else none
    else
     bif Nat.ble 64 pc then
      bif Nat.ble 65 pc then
       bif Nat.beq pc 65 then some (.lload_n 1, 1, [], .inl 0, []) else none
      else
       bif Nat.beq pc 64 then some (.lreturn, 1, [], .inl 0, []) else none
     else
      bif Nat.beq pc 63 then some (.i2l, 1, [], .inl 0, []) else none
  else
   bif Nat.ble 54 pc then
    bif Nat.ble 59 pc then
     bif Nat.ble 61 pc then
      bif Nat.ble 62 pc then
       bif Nat.beq pc 62 then some (.i2b, 1, [], .inl 0, []) else none
      else
       bif Nat.beq pc 61 then some (.l2i, 1, [], .inl 0, []) else none
     else
      bif Nat.ble 60 pc then
       bif Nat.beq pc 60 then some (.lload_n 1, 1, [], .inl 0, []) else none
      else
       bif Nat.beq pc 59 then some (.lreturn, 1, [], .inl 0, []) else none
    else
     bif Nat.ble 55 pc then
      bif Nat.ble 58 pc then
       bif Nat.beq pc 58 then some (.lconst 0, 1, [], .inr (.inl (0)), []) else none
      else
       bif Nat.beq pc 55 then some (.goto 4, 3, [], .inl 0, []) else none
     else
      bif Nat.beq pc 54 then some (.lconst 1, 1, [], .inr (.inl (1)), []) else none
   else
    bif Nat.ble 49 pc then
     bif Nat.ble 50 pc then
      bif Nat.ble 51 pc then
       bif Nat.beq pc 51 then some (.ifCond .eq 7, 3, [], .inl 0, []) else none
      else
       bif Nat.beq pc 50 then some (.lcmp, 1, [], .inl 0, []) else none
     else
      bif Nat.beq pc 49 then some (.lconst 0, 1, [], .inr (.inl (0)), []) else none
    else
     bif Nat.ble 1 pc then
      bif Nat.ble 48 pc then
       bif Nat.beq pc 48 then some (.lload_n 1, 1, [], .inl 0, []) else none
      else
       bif Nat.beq pc 1 then some (.tableswitch 118 0 7 #[47, 59, 64, 69, 74, 118, 78, 98], 47, [], .inl 0, []) else none
     else
      bif Nat.beq pc 0 then some (.iload_n 0, 1, [], .inl 0, []) else none
def kX12_partNamed (pc : Nat) : Option Ent := bif Nat.ble 42 pc then none else
 bif Nat.ble 21 pc then
  bif Nat.ble 28 pc then
   bif Nat.ble 34 pc then
    bif Nat.ble 40 pc then
     bif Nat.ble 41 pc then
      bif Nat.beq pc 41 then some (.ireturn, 1, [], .inl 0, []) else none
     else
      bif Nat.beq pc 40 then some (.iconst (-1), 1, [], .inl (-1), []) else none
    else
     bif Nat.ble 37 pc then
      bif Nat.beq pc 37 then some (.goto (-34), 3, [], .inl 0, []) else none
     else
      bif Nat.beq pc 34 then some (.iinc 4 1, 3, [], .inl (1), []) else none
   else
    bif Nat.ble 31 pc then
     bif Nat.ble 33 pc then
      bif Nat.beq pc 33 then some (.ireturn, 1, [], .inl 0, []) else none
     else
      bif Nat.beq pc 31 then some (.iload 4, 2, [], .inl 0, []) else none
    else
     bif Nat.beq pc 28 then some (.ifCond .ne 6, 3, [], .inl 0, []) else none
  else
   bif Nat.ble 25 pc then
    bif Nat.ble 26 pc then
     bif Nat.ble 27 pc then
      bif Nat.beq pc 27 then some (.lcmp, 1, [], .inl 0, []) else none
     else
      bif Nat.beq pc 26 then some (.lload_n 2, 1, [], .inl 0, []) else none
    else
     bif Nat.beq pc 25 then some (.laload, 1, [], .inl 0, []) else none
   else
    bif Nat.ble 22 pc then
     bif Nat.ble 24 pc then
      bif Nat.beq pc 24 then some (.iadd, 1, [], .inl 0, []) else none
     else
      bif Nat.beq pc 22 then some (.iload 4, 2, [], .inl 0, []) else none
    else
     bif Nat.beq pc 21 then some (.imul, 1, [], .inl 0, []) else none
 else
  bif Nat.ble 10 pc then
   bif Nat.ble 15 pc then
    bif Nat.ble 18 pc then
     bif Nat.ble 20 pc then
      bif Nat.beq pc 20 then some (.iload_n 1, 1, [], .inl 0, []) else none
     else
      bif Nat.beq pc 18 then some (.bipush 6, 2, [], .inl (6), []) else none
    else
     bif Nat.beq pc 15 then some (.getfield 27, 3, [12, 775, 2], .inl 0, []) else none
   else
    bif Nat.ble 11 pc then
     bif Nat.ble 14 pc then
      bif Nat.beq pc 14 then some (.aload_n 0, 1, [], .inl 0, []) else none
     else
      bif Nat.beq pc 11 then some (.if_icmp .ge 29, 3, [], .inl 0, []) else none
    else
     bif Nat.beq pc 10 then some (.iaload, 1, [], .inl 0, []) else none
  else
   bif Nat.ble 5 pc then
    bif Nat.ble 6 pc then
     bif Nat.ble 9 pc then
      bif Nat.beq pc 9 then some (.iload_n 1, 1, [], .inl 0, []) else none
     else
      bif Nat.beq pc 6 then some (.getfield 24, 3, [12, 774, 2], .inl 0, []) else none
    else
     bif Nat.beq pc 5 then some (.aload_n 0, 1, [], .inl 0, []) else none
   else
    bif Nat.ble 1 pc then
     bif Nat.ble 3 pc then
      bif Nat.beq pc 3 then some (.iload 4, 2, [], .inl 0, [3]) else none
     else
      bif Nat.beq pc 1 then some (.istore 4, 2, [], .inl 0, []) else none
    else
     bif Nat.beq pc 0 then some (.iconst 0, 1, [], .inl (0), []) else none
def kX12_part (pc : Nat) : Option Ent := bif Nat.ble 143 pc then none else
 bif Nat.ble 73 pc then
  bif Nat.ble 113 pc then
   bif Nat.ble 130 pc then
    bif Nat.ble 135 pc then
     bif Nat.ble 140 pc then
      bif Nat.ble 141 pc then
       bif Nat.ble 142 pc then
        bif Nat.beq pc 142 then some (.ireturn, 1, [], .inl 0, []) else none
       else
        bif Nat.beq pc 141 then some (.isub, 1, [], .inl 0, []) else none
      else
       bif Nat.beq pc 140 then some (.iconst 1, 1, [], .inl (1), []) else none
     else
      bif Nat.ble 138 pc then
       bif Nat.ble 139 pc then
        bif Nat.beq pc 139 then some (.iaload, 1, [], .inl 0, []) else none
       else
        bif Nat.beq pc 138 then some (.iload_n 1, 1, [], .inl 0, []) else none
      else
       bif Nat.beq pc 135 then some (.getfield 24, 3, [12, 774, 2], .inl 0, []) else none
    else
     bif Nat.ble 132 pc then
      bif Nat.ble 133 pc then
       bif Nat.ble 134 pc then
        bif Nat.beq pc 134 then some (.aload_n 0, 1, [], .inl 0, []) else none
       else
        bif Nat.beq pc 133 then some (.iastore, 1, [], .inl 0, []) else none
      else
       bif Nat.beq pc 132 then some (.iadd, 1, [], .inl 0, []) else none
     else
      bif Nat.ble 131 pc then
       bif Nat.beq pc 131 then some (.iconst 1, 1, [], .inl (1), []) else none
      else
       bif Nat.beq pc 130 then some (.iaload, 1, [], .inl 0, []) else none
   else
    bif Nat.ble 123 pc then
     bif Nat.ble 125 pc then
      bif Nat.ble 128 pc then
       bif Nat.ble 129 pc then
        bif Nat.beq pc 129 then some (.dup2, 1, [], .inl 0, []) else none
       else
        bif Nat.beq pc 128 then some (.iload_n 1, 1, [], .inl 0, []) else none
      else
       bif Nat.beq pc 125 then some (.getfield 24, 3, [12, 774, 2], .inl 0, []) else none
     else
      bif Nat.ble 124 pc then
       bif Nat.beq pc 124 then some (.aload_n 0, 1, [], .inl 0, []) else none
      else
       bif Nat.beq pc 123 then some (.lastore, 1, [], .inl 0, []) else none
    else
     bif Nat.ble 117 pc then
      bif Nat.ble 120 pc then
       bif Nat.ble 122 pc then
        bif Nat.beq pc 122 then some (.laload, 1, [], .inl 0, []) else none
       else
        bif Nat.beq pc 120 then some (.iload 8, 2, [], .inl 0, []) else none
      else
       bif Nat.beq pc 117 then some (.getfield 36, 3, [12, 778, 2], .inl 0, []) else none
     else
      bif Nat.ble 116 pc then
       bif Nat.beq pc 116 then some (.aload_n 0, 1, [], .inl 0, []) else none
      else
       bif Nat.beq pc 113 then some (.goto 10, 3, [], .inl 0, []) else none
  else
   bif Nat.ble 90 pc then
    bif Nat.ble 101 pc then
     bif Nat.ble 106 pc then
      bif Nat.ble 108 pc then
       bif Nat.ble 110 pc then
        bif Nat.beq pc 110 then some (.invokestatic 242, 3, [177, 2, 2, 3, 100], .inl 0, []) else none
       else
        bif Nat.beq pc 108 then some (.lload 6, 2, [], .inl 0, []) else none
      else
       bif Nat.beq pc 106 then some (.iload 4, 2, [], .inl 0, []) else none
     else
      bif Nat.ble 103 pc then
       bif Nat.beq pc 103 then some (.if_icmp .ge 13, 3, [], .inl 0, []) else none
      else
       bif Nat.beq pc 101 then some (.bipush 8, 2, [], .inl (8), []) else none
    else
     bif Nat.ble 94 pc then
      bif Nat.ble 97 pc then
       bif Nat.ble 99 pc then
        bif Nat.beq pc 99 then some (.iload 4, 2, [], .inl 0, []) else none
       else
        bif Nat.beq pc 97 then some (.iload 8, 2, [], .inl 0, []) else none
      else
       bif Nat.beq pc 94 then some (.getfield 36, 3, [12, 778, 2], .inl 0, []) else none
     else
      bif Nat.ble 93 pc then
       bif Nat.beq pc 93 then some (.aload_n 0, 1, [], .inl 0, []) else none
      else
       bif Nat.beq pc 90 then some (.invokevirtual 238, 3, [180, 4, 0, 4, 12], .inl 0, []) else none
   else
    bif Nat.ble 82 pc then
     bif Nat.ble 84 pc then
      bif Nat.ble 86 pc then
       bif Nat.ble 88 pc then
        bif Nat.beq pc 88 then some (.iload 5, 2, [], .inl 0, []) else none
       else
        bif Nat.beq pc 86 then some (.iload 4, 2, [], .inl 0, []) else none
      else
       bif Nat.beq pc 84 then some (.iload 8, 2, [], .inl 0, []) else none
     else
      bif Nat.ble 83 pc then
       bif Nat.beq pc 83 then some (.aload_n 0, 1, [], .inl 0, []) else none
      else
       bif Nat.beq pc 82 then some (.lastore, 1, [], .inl 0, []) else none
    else
     bif Nat.ble 76 pc then
      bif Nat.ble 79 pc then
       bif Nat.ble 81 pc then
        bif Nat.beq pc 81 then some (.lload_n 2, 1, [], .inl 0, []) else none
       else
        bif Nat.beq pc 79 then some (.iload 8, 2, [], .inl 0, []) else none
      else
       bif Nat.beq pc 76 then some (.getfield 27, 3, [12, 775, 2], .inl 0, []) else none
     else
      bif Nat.ble 75 pc then
       bif Nat.beq pc 75 then some (.aload_n 0, 1, [], .inl 0, []) else none
      else
       bif Nat.beq pc 73 then some (.istore 8, 2, [], .inl 0, []) else none
 else
  bif Nat.ble 38 pc then
   bif Nat.ble 56 pc then
    bif Nat.ble 65 pc then
     bif Nat.ble 70 pc then
      bif Nat.ble 71 pc then
       bif Nat.ble 72 pc then
        bif Nat.beq pc 72 then some (.iadd, 1, [], .inl 0, []) else none
       else
        bif Nat.beq pc 71 then some (.iaload, 1, [], .inl 0, []) else none
      else
       bif Nat.beq pc 70 then some (.iload_n 1, 1, [], .inl 0, []) else none
     else
      bif Nat.ble 66 pc then
       bif Nat.ble 67 pc then
        bif Nat.beq pc 67 then some (.getfield 24, 3, [12, 774, 2], .inl 0, []) else none
       else
        bif Nat.beq pc 66 then some (.aload_n 0, 1, [], .inl 0, []) else none
      else
       bif Nat.beq pc 65 then some (.imul, 1, [], .inl 0, []) else none
    else
     bif Nat.ble 61 pc then
      bif Nat.ble 62 pc then
       bif Nat.ble 64 pc then
        bif Nat.beq pc 64 then some (.iload_n 1, 1, [], .inl 0, []) else none
       else
        bif Nat.beq pc 62 then some (.bipush 6, 2, [], .inl (6), []) else none
      else
       bif Nat.beq pc 61 then some (.ireturn, 1, [], .inl 0, []) else none
     else
      bif Nat.ble 59 pc then
       bif Nat.beq pc 59 then some (.bipush (-3), 2, [], .inl (-3), []) else none
      else
       bif Nat.beq pc 56 then some (.if_icmp .ne 6, 3, [], .inl 0, []) else none
   else
    bif Nat.ble 48 pc then
     bif Nat.ble 52 pc then
      bif Nat.ble 53 pc then
       bif Nat.ble 54 pc then
        bif Nat.beq pc 54 then some (.bipush 6, 2, [], .inl (6), []) else none
       else
        bif Nat.beq pc 53 then some (.iaload, 1, [], .inl 0, []) else none
      else
       bif Nat.beq pc 52 then some (.iload_n 1, 1, [], .inl 0, []) else none
     else
      bif Nat.ble 49 pc then
       bif Nat.beq pc 49 then some (.getfield 24, 3, [12, 774, 2], .inl 0, []) else none
      else
       bif Nat.beq pc 48 then some (.aload_n 0, 1, [], .inl 0, []) else none
    else
     bif Nat.ble 42 pc then
      bif Nat.ble 45 pc then
       bif Nat.ble 47 pc then
        bif Nat.beq pc 47 then some (.ireturn, 1, [], .inl 0, []) else none
       else
        bif Nat.beq pc 45 then some (.bipush (-2), 2, [], .inl (-2), []) else none
      else
       bif Nat.beq pc 42 then some (.ifCond .le 6, 3, [], .inl 0, []) else none
     else
      bif Nat.ble 39 pc then
       bif Nat.beq pc 39 then some (.getfield 189, 3, [12, 791, 0], .inl 0, []) else none
      else
       bif Nat.beq pc 38 then some (.aload_n 0, 1, [], .inl 0, []) else none
  else
   bif Nat.ble 18 pc then
    bif Nat.ble 28 pc then
     bif Nat.ble 33 pc then
      bif Nat.ble 36 pc then
       bif Nat.ble 37 pc then
        bif Nat.beq pc 37 then some (.ireturn, 1, [], .inl 0, []) else none
       else
        bif Nat.beq pc 36 then some (.iconst (-1), 1, [], .inl (-1), []) else none
      else
       bif Nat.beq pc 33 then some (.ifCond .ne 5, 3, [], .inl 0, []) else none
     else
      bif Nat.ble 30 pc then
       bif Nat.beq pc 30 then some (.invokevirtual 235, 3, [176, 3, 1, 3, 12], .inl 0, []) else none
      else
       bif Nat.beq pc 28 then some (.iload 5, 2, [], .inl 0, []) else none
    else
     bif Nat.ble 22 pc then
      bif Nat.ble 25 pc then
       bif Nat.ble 26 pc then
        bif Nat.beq pc 26 then some (.iload 4, 2, [], .inl 0, []) else none
       else
        bif Nat.beq pc 25 then some (.aload_n 0, 1, [], .inl 0, []) else none
      else
       bif Nat.beq pc 22 then some (.if_icmp .ne 14, 3, [], .inl 0, []) else none
     else
      bif Nat.ble 21 pc then
       bif Nat.beq pc 21 then some (.iconst (-1), 1, [], .inl (-1), []) else none
      else
       bif Nat.beq pc 18 then some (.invokevirtual 232, 3, [178, 3, 1, 5, 12], .inl 0, []) else none
   else
    bif Nat.ble 9 pc then
     bif Nat.ble 15 pc then
      bif Nat.ble 16 pc then
       bif Nat.ble 17 pc then
        bif Nat.beq pc 17 then some (.lload_n 2, 1, [], .inl 0, []) else none
       else
        bif Nat.beq pc 16 then some (.iload_n 1, 1, [], .inl 0, []) else none
      else
       bif Nat.beq pc 15 then some (.aload_n 0, 1, [], .inl 0, []) else none
     else
      bif Nat.ble 12 pc then
       bif Nat.beq pc 12 then some (.ifCond .eq 24, 3, [], .inl 0, []) else none
      else
       bif Nat.beq pc 9 then some (.invokestatic 192, 3, [158, 1, 1, 7, 100], .inl 0, []) else none
    else
     bif Nat.ble 2 pc then
      bif Nat.ble 5 pc then
       bif Nat.ble 8 pc then
        bif Nat.beq pc 8 then some (.lload_n 2, 1, [], .inl 0, []) else none
       else
        bif Nat.beq pc 5 then some (.ifCond .eq 31, 3, [], .inl 0, []) else none
      else
       bif Nat.beq pc 2 then some (.invokevirtual 183, 3, [161, 2, 1, 2, 12], .inl 0, []) else none
     else
      bif Nat.ble 1 pc then
       bif Nat.beq pc 1 then some (.iload_n 1, 1, [], .inl 0, []) else none
      else
       bif Nat.beq pc 0 then some (.aload_n 0, 1, [], .inl 0, []) else none
def kX12_setSort (pc : Nat) : Option Ent := bif Nat.ble 58 pc then none else
 bif Nat.ble 25 pc then
  bif Nat.ble 40 pc then
   bif Nat.ble 49 pc then
    bif Nat.ble 53 pc then
     bif Nat.ble 56 pc then
      bif Nat.ble 57 pc then
       bif Nat.beq pc 57 then some (.return_, 1, [], .inl 0, []) else none
      else
       bif Nat.beq pc 56 then some (.lastore, 1, [], .inl 0, []) else none
     else
      bif Nat.beq pc 53 then some (.ldc2_w 246, 3, [], .inr (.inl (-1)), []) else none
    else
     bif Nat.ble 50 pc then
      bif Nat.beq pc 50 then some (.goto 6, 3, [], .inl 0, []) else none
     else
      bif Nat.beq pc 49 then some (.lconst 0, 1, [], .inr (.inl (0)), []) else none
   else
    bif Nat.ble 44 pc then
     bif Nat.ble 46 pc then
      bif Nat.beq pc 46 then some (.if_icmp .ne 7, 3, [], .inl 0, []) else none
     else
      bif Nat.beq pc 44 then some (.bipush 9, 2, [], .inl (9), []) else none
    else
     bif Nat.ble 43 pc then
      bif Nat.beq pc 43 then some (.iload_n 2, 1, [], .inl 0, []) else none
     else
      bif Nat.beq pc 40 then some (.goto 16, 3, [], .inl 0, []) else none
  else
   bif Nat.ble 32 pc then
    bif Nat.ble 36 pc then
     bif Nat.ble 37 pc then
      bif Nat.beq pc 37 then some (.invokestatic 242, 3, [177, 2, 2, 3, 100], .inl 0, []) else none
     else
      bif Nat.beq pc 36 then some (.lconst 0, 1, [], .inr (.inl (0)), []) else none
    else
     bif Nat.ble 35 pc then
      bif Nat.beq pc 35 then some (.iload_n 2, 1, [], .inl 0, []) else none
     else
      bif Nat.beq pc 32 then some (.if_icmp .ge 11, 3, [], .inl 0, []) else none
   else
    bif Nat.ble 29 pc then
     bif Nat.ble 30 pc then
      bif Nat.beq pc 30 then some (.bipush 8, 2, [], .inl (8), []) else none
     else
      bif Nat.beq pc 29 then some (.iload_n 2, 1, [], .inl 0, []) else none
    else
     bif Nat.ble 28 pc then
      bif Nat.beq pc 28 then some (.iload_n 1, 1, [], .inl 0, []) else none
     else
      bif Nat.beq pc 25 then some (.getfield 36, 3, [12, 778, 2], .inl 0, []) else none
 else
  bif Nat.ble 12 pc then
   bif Nat.ble 19 pc then
    bif Nat.ble 23 pc then
     bif Nat.ble 24 pc then
      bif Nat.beq pc 24 then some (.aload_n 0, 1, [], .inl 0, []) else none
     else
      bif Nat.beq pc 23 then some (.iastore, 1, [], .inl 0, []) else none
    else
     bif Nat.ble 22 pc then
      bif Nat.beq pc 22 then some (.iload_n 3, 1, [], .inl 0, []) else none
     else
      bif Nat.beq pc 19 then some (.goto 4, 3, [], .inl 0, []) else none
   else
    bif Nat.ble 15 pc then
     bif Nat.ble 18 pc then
      bif Nat.beq pc 18 then some (.iconst 0, 1, [], .inl (0), []) else none
     else
      bif Nat.beq pc 15 then some (.if_icmp .ge 7, 3, [], .inl 0, []) else none
    else
     bif Nat.ble 13 pc then
      bif Nat.beq pc 13 then some (.bipush 8, 2, [], .inl (8), []) else none
     else
      bif Nat.beq pc 12 then some (.iload_n 2, 1, [], .inl 0, []) else none
  else
   bif Nat.ble 6 pc then
    bif Nat.ble 8 pc then
     bif Nat.ble 11 pc then
      bif Nat.beq pc 11 then some (.iload_n 1, 1, [], .inl 0, []) else none
     else
      bif Nat.beq pc 8 then some (.getfield 33, 3, [12, 777, 2], .inl 0, []) else none
    else
     bif Nat.ble 7 pc then
      bif Nat.beq pc 7 then some (.aload_n 0, 1, [], .inl 0, []) else none
     else
      bif Nat.beq pc 6 then some (.iastore, 1, [], .inl 0, []) else none
   else
    bif Nat.ble 4 pc then
     bif Nat.ble 5 pc then
      bif Nat.beq pc 5 then some (.iload_n 2, 1, [], .inl 0, []) else none
     else
      bif Nat.beq pc 4 then some (.iload_n 1, 1, [], .inl 0, []) else none
    else
     bif Nat.ble 1 pc then
      bif Nat.beq pc 1 then some (.getfield 30, 3, [12, 776, 2], .inl 0, []) else none
     else
      bif Nat.beq pc 0 then some (.aload_n 0, 1, [], .inl 0, []) else none
def kX12_dropChecks (pc : Nat) : Option Ent := bif Nat.ble 145 pc then none else
 bif Nat.ble 71 pc then
  bif Nat.ble 106 pc then
   bif Nat.ble 125 pc then
    bif Nat.ble 136 pc then
     bif Nat.ble 141 pc then
      bif Nat.ble 143 pc then
       bif Nat.ble 144 pc then
        bif Nat.beq pc 144 then some (.return_, 1, [], .inl 0, []) else none
       else
        bif Nat.beq pc 143 then some (.iastore, 1, [], .inl 0, []) else none
      else
       bif Nat.beq pc 141 then some (.iload 4, 2, [], .inl 0, []) else none
     else
      bif Nat.ble 137 pc then
       bif Nat.ble 140 pc then
        bif Nat.beq pc 140 then some (.iload_n 1, 1, [], .inl 0, []) else none
       else
        bif Nat.beq pc 137 then some (.getfield 39, 3, [12, 779, 2], .inl 0, []) else none
      else
       bif Nat.beq pc 136 then some (.aload_n 0, 1, [], .inl 0, []) else none
    else
     bif Nat.ble 127 pc then
      bif Nat.ble 130 pc then
       bif Nat.ble 133 pc then
        bif Nat.beq pc 133 then some (.goto (-127), 3, [], .inl 0, []) else none
       else
        bif Nat.beq pc 130 then some (.iinc 5 1, 3, [], .inl (1), []) else none
      else
       bif Nat.beq pc 127 then some (.iinc 4 1, 3, [], .inl (1), []) else none
     else
      bif Nat.ble 126 pc then
       bif Nat.beq pc 126 then some (.lastore, 1, [], .inl 0, []) else none
      else
       bif Nat.beq pc 125 then some (.laload, 1, [], .inl 0, []) else none
   else
    bif Nat.ble 114 pc then
     bif Nat.ble 119 pc then
      bif Nat.ble 120 pc then
       bif Nat.ble 123 pc then
        bif Nat.beq pc 123 then some (.iload 6, 2, [], .inl 0, []) else none
       else
        bif Nat.beq pc 120 then some (.getfield 51, 3, [12, 783, 2], .inl 0, []) else none
      else
       bif Nat.beq pc 119 then some (.aload_n 0, 1, [], .inl 0, []) else none
     else
      bif Nat.ble 117 pc then
       bif Nat.beq pc 117 then some (.iload 7, 2, [], .inl 0, []) else none
      else
       bif Nat.beq pc 114 then some (.getfield 51, 3, [12, 783, 2], .inl 0, []) else none
    else
     bif Nat.ble 111 pc then
      bif Nat.ble 112 pc then
       bif Nat.ble 113 pc then
        bif Nat.beq pc 113 then some (.aload_n 0, 1, [], .inl 0, []) else none
       else
        bif Nat.beq pc 112 then some (.lastore, 1, [], .inl 0, []) else none
      else
       bif Nat.beq pc 111 then some (.laload, 1, [], .inl 0, []) else none
     else
      bif Nat.ble 109 pc then
       bif Nat.beq pc 109 then some (.iload 6, 2, [], .inl 0, []) else none
      else
       bif Nat.beq pc 106 then some (.getfield 48, 3, [12, 782, 2], .inl 0, []) else none
  else
   bif Nat.ble 86 pc then
    bif Nat.ble 97 pc then
     bif Nat.ble 100 pc then
      bif Nat.ble 103 pc then
       bif Nat.ble 105 pc then
        bif Nat.beq pc 105 then some (.aload_n 0, 1, [], .inl 0, []) else none
       else
        bif Nat.beq pc 103 then some (.iload 7, 2, [], .inl 0, []) else none
      else
       bif Nat.beq pc 100 then some (.getfield 48, 3, [12, 782, 2], .inl 0, []) else none
     else
      bif Nat.ble 98 pc then
       bif Nat.ble 99 pc then
        bif Nat.beq pc 99 then some (.aload_n 0, 1, [], .inl 0, []) else none
       else
        bif Nat.beq pc 98 then some (.iastore, 1, [], .inl 0, []) else none
      else
       bif Nat.beq pc 97 then some (.iaload, 1, [], .inl 0, []) else none
    else
     bif Nat.ble 91 pc then
      bif Nat.ble 92 pc then
       bif Nat.ble 95 pc then
        bif Nat.beq pc 95 then some (.iload 6, 2, [], .inl 0, []) else none
       else
        bif Nat.beq pc 92 then some (.getfield 45, 3, [12, 781, 2], .inl 0, []) else none
      else
       bif Nat.beq pc 91 then some (.aload_n 0, 1, [], .inl 0, []) else none
     else
      bif Nat.ble 89 pc then
       bif Nat.beq pc 89 then some (.iload 7, 2, [], .inl 0, []) else none
      else
       bif Nat.beq pc 86 then some (.getfield 45, 3, [12, 781, 2], .inl 0, []) else none
   else
    bif Nat.ble 78 pc then
     bif Nat.ble 83 pc then
      bif Nat.ble 84 pc then
       bif Nat.ble 85 pc then
        bif Nat.beq pc 85 then some (.aload_n 0, 1, [], .inl 0, []) else none
       else
        bif Nat.beq pc 84 then some (.iastore, 1, [], .inl 0, []) else none
      else
       bif Nat.beq pc 83 then some (.iaload, 1, [], .inl 0, []) else none
     else
      bif Nat.ble 81 pc then
       bif Nat.beq pc 81 then some (.iload 6, 2, [], .inl 0, []) else none
      else
       bif Nat.beq pc 78 then some (.getfield 42, 3, [12, 780, 2], .inl 0, []) else none
    else
     bif Nat.ble 73 pc then
      bif Nat.ble 74 pc then
       bif Nat.ble 77 pc then
        bif Nat.beq pc 77 then some (.aload_n 0, 1, [], .inl 0, []) else none
       else
        bif Nat.beq pc 74 then some (.goto 10, 3, [], .inl 0, []) else none
      else
       bif Nat.beq pc 73 then some (.isub, 1, [], .inl 0, []) else none
     else
      bif Nat.ble 72 pc then
       bif Nat.beq pc 72 then some (.iconst 1, 1, [], .inl (1), []) else none
      else
       bif Nat.beq pc 71 then some (.iaload, 1, [], .inl 0, []) else none
 else
  bif Nat.ble 33 pc then
   bif Nat.ble 50 pc then
    bif Nat.ble 58 pc then
     bif Nat.ble 65 pc then
      bif Nat.ble 66 pc then
       bif Nat.ble 69 pc then
        bif Nat.beq pc 69 then some (.iload 6, 2, [], .inl 0, []) else none
       else
        bif Nat.beq pc 66 then some (.getfield 42, 3, [12, 780, 2], .inl 0, []) else none
      else
       bif Nat.beq pc 65 then some (.aload_n 0, 1, [], .inl 0, []) else none
     else
      bif Nat.ble 61 pc then
       bif Nat.ble 62 pc then
        bif Nat.beq pc 62 then some (.ifCond .eq 15, 3, [], .inl 0, []) else none
       else
        bif Nat.beq pc 61 then some (.iload_n 3, 1, [], .inl 0, []) else none
      else
       bif Nat.beq pc 58 then some (.if_icmp .le 19, 3, [], .inl 0, []) else none
    else
     bif Nat.ble 54 pc then
      bif Nat.ble 56 pc then
       bif Nat.ble 57 pc then
        bif Nat.beq pc 57 then some (.iload_n 2, 1, [], .inl 0, []) else none
       else
        bif Nat.beq pc 56 then some (.iaload, 1, [], .inl 0, []) else none
      else
       bif Nat.beq pc 54 then some (.iload 6, 2, [], .inl 0, []) else none
     else
      bif Nat.ble 51 pc then
       bif Nat.beq pc 51 then some (.getfield 42, 3, [12, 780, 2], .inl 0, []) else none
      else
       bif Nat.beq pc 50 then some (.aload_n 0, 1, [], .inl 0, []) else none
   else
    bif Nat.ble 41 pc then
     bif Nat.ble 44 pc then
      bif Nat.ble 45 pc then
       bif Nat.ble 48 pc then
        bif Nat.beq pc 48 then some (.iload 7, 2, [], .inl 0, []) else none
       else
        bif Nat.beq pc 45 then some (.getfield 42, 3, [12, 780, 2], .inl 0, []) else none
      else
       bif Nat.beq pc 44 then some (.aload_n 0, 1, [], .inl 0, []) else none
     else
      bif Nat.ble 42 pc then
       bif Nat.beq pc 42 then some (.istore 7, 2, [], .inl 0, []) else none
      else
       bif Nat.beq pc 41 then some (.iadd, 1, [], .inl 0, []) else none
    else
     bif Nat.ble 37 pc then
      bif Nat.ble 38 pc then
       bif Nat.ble 39 pc then
        bif Nat.beq pc 39 then some (.iload 4, 2, [], .inl 0, []) else none
       else
        bif Nat.beq pc 38 then some (.imul, 1, [], .inl 0, []) else none
      else
       bif Nat.beq pc 37 then some (.iload_n 1, 1, [], .inl 0, []) else none
     else
      bif Nat.ble 36 pc then
       bif Nat.beq pc 36 then some (.iconst 4, 1, [], .inl (4), []) else none
      else
       bif Nat.beq pc 33 then some (.if_icmp .eq 97, 3, [], .inl 0, []) else none
  else
   bif Nat.ble 17 pc then
    bif Nat.ble 23 pc then
     bif Nat.ble 29 pc then
      bif Nat.ble 31 pc then
       bif Nat.ble 32 pc then
        bif Nat.beq pc 32 then some (.iload_n 2, 1, [], .inl 0, []) else none
       else
        bif Nat.beq pc 31 then some (.iaload, 1, [], .inl 0, []) else none
      else
       bif Nat.beq pc 29 then some (.iload 6, 2, [], .inl 0, []) else none
     else
      bif Nat.ble 25 pc then
       bif Nat.ble 26 pc then
        bif Nat.beq pc 26 then some (.getfield 42, 3, [12, 780, 2], .inl 0, []) else none
       else
        bif Nat.beq pc 25 then some (.aload_n 0, 1, [], .inl 0, []) else none
      else
       bif Nat.beq pc 23 then some (.istore 6, 2, [], .inl 0, []) else none
    else
     bif Nat.ble 19 pc then
      bif Nat.ble 20 pc then
       bif Nat.ble 22 pc then
        bif Nat.beq pc 22 then some (.iadd, 1, [], .inl 0, []) else none
       else
        bif Nat.beq pc 20 then some (.iload 5, 2, [], .inl 0, []) else none
      else
       bif Nat.beq pc 19 then some (.imul, 1, [], .inl 0, []) else none
     else
      bif Nat.ble 18 pc then
       bif Nat.beq pc 18 then some (.iload_n 1, 1, [], .inl 0, []) else none
      else
       bif Nat.beq pc 17 then some (.iconst 4, 1, [], .inl (4), []) else none
   else
    bif Nat.ble 8 pc then
     bif Nat.ble 12 pc then
      bif Nat.ble 13 pc then
       bif Nat.ble 14 pc then
        bif Nat.beq pc 14 then some (.if_icmp .ge 122, 3, [], .inl 0, []) else none
       else
        bif Nat.beq pc 13 then some (.iaload, 1, [], .inl 0, []) else none
      else
       bif Nat.beq pc 12 then some (.iload_n 1, 1, [], .inl 0, []) else none
     else
      bif Nat.ble 9 pc then
       bif Nat.beq pc 9 then some (.getfield 39, 3, [12, 779, 2], .inl 0, []) else none
      else
       bif Nat.beq pc 8 then some (.aload_n 0, 1, [], .inl 0, []) else none
    else
     bif Nat.ble 3 pc then
      bif Nat.ble 4 pc then
       bif Nat.ble 6 pc then
        bif Nat.beq pc 6 then some (.iload 5, 2, [], .inl 0, [6, 7]) else none
       else
        bif Nat.beq pc 4 then some (.istore 5, 2, [], .inl 0, []) else none
      else
       bif Nat.beq pc 3 then some (.iconst 0, 1, [], .inl (0), []) else none
     else
      bif Nat.ble 1 pc then
       bif Nat.beq pc 1 then some (.istore 4, 2, [], .inl 0, []) else none
      else
       bif Nat.beq pc 0 then some (.iconst 0, 1, [], .inl (0), []) else none
def kX12_without (pc : Nat) : Option Ent := bif Nat.ble 135 pc then none else
 bif Nat.ble 65 pc then
  bif Nat.ble 100 pc then
   bif Nat.ble 118 pc then
    bif Nat.ble 125 pc then
     bif Nat.ble 132 pc then
      bif Nat.ble 133 pc then
       bif Nat.ble 134 pc then
        bif Nat.beq pc 134 then some (.ireturn, 1, [], .inl 0, []) else none
       else
        bif Nat.beq pc 133 then some (.iaload, 1, [], .inl 0, []) else none
      else
       bif Nat.beq pc 132 then some (.iload_n 1, 1, [], .inl 0, []) else none
     else
      bif Nat.ble 128 pc then
       bif Nat.ble 129 pc then
        bif Nat.beq pc 129 then some (.getfield 24, 3, [12, 774, 2], .inl 0, []) else none
       else
        bif Nat.beq pc 128 then some (.aload_n 0, 1, [], .inl 0, []) else none
      else
       bif Nat.beq pc 125 then some (.goto (-85), 3, [], .inl 0, []) else none
    else
     bif Nat.ble 120 pc then
      bif Nat.ble 121 pc then
       bif Nat.ble 122 pc then
        bif Nat.beq pc 122 then some (.iinc 3 1, 3, [], .inl (1), []) else none
       else
        bif Nat.beq pc 121 then some (.lastore, 1, [], .inl 0, []) else none
      else
       bif Nat.beq pc 120 then some (.laload, 1, [], .inl 0, []) else none
     else
      bif Nat.ble 119 pc then
       bif Nat.beq pc 119 then some (.iadd, 1, [], .inl 0, []) else none
      else
       bif Nat.beq pc 118 then some (.iconst 1, 1, [], .inl (1), []) else none
   else
    bif Nat.ble 106 pc then
     bif Nat.ble 112 pc then
      bif Nat.ble 113 pc then
       bif Nat.ble 116 pc then
        bif Nat.beq pc 116 then some (.iload 4, 2, [], .inl 0, []) else none
       else
        bif Nat.beq pc 113 then some (.getfield 36, 3, [12, 778, 2], .inl 0, []) else none
      else
       bif Nat.beq pc 112 then some (.aload_n 0, 1, [], .inl 0, []) else none
     else
      bif Nat.ble 107 pc then
       bif Nat.ble 110 pc then
        bif Nat.beq pc 110 then some (.iload 4, 2, [], .inl 0, []) else none
       else
        bif Nat.beq pc 107 then some (.getfield 36, 3, [12, 778, 2], .inl 0, []) else none
      else
       bif Nat.beq pc 106 then some (.aload_n 0, 1, [], .inl 0, []) else none
    else
     bif Nat.ble 103 pc then
      bif Nat.ble 104 pc then
       bif Nat.ble 105 pc then
        bif Nat.beq pc 105 then some (.iastore, 1, [], .inl 0, []) else none
       else
        bif Nat.beq pc 104 then some (.iaload, 1, [], .inl 0, []) else none
      else
       bif Nat.beq pc 103 then some (.iadd, 1, [], .inl 0, []) else none
     else
      bif Nat.ble 102 pc then
       bif Nat.beq pc 102 then some (.iconst 1, 1, [], .inl (1), []) else none
      else
       bif Nat.beq pc 100 then some (.iload 4, 2, [], .inl 0, []) else none
  else
   bif Nat.ble 81 pc then
    bif Nat.ble 89 pc then
     bif Nat.ble 94 pc then
      bif Nat.ble 96 pc then
       bif Nat.ble 97 pc then
        bif Nat.beq pc 97 then some (.getfield 33, 3, [12, 777, 2], .inl 0, []) else none
       else
        bif Nat.beq pc 96 then some (.aload_n 0, 1, [], .inl 0, []) else none
      else
       bif Nat.beq pc 94 then some (.iload 4, 2, [], .inl 0, []) else none
     else
      bif Nat.ble 90 pc then
       bif Nat.ble 91 pc then
        bif Nat.beq pc 91 then some (.getfield 33, 3, [12, 777, 2], .inl 0, []) else none
       else
        bif Nat.beq pc 90 then some (.aload_n 0, 1, [], .inl 0, []) else none
      else
       bif Nat.beq pc 89 then some (.iastore, 1, [], .inl 0, []) else none
    else
     bif Nat.ble 86 pc then
      bif Nat.ble 87 pc then
       bif Nat.ble 88 pc then
        bif Nat.beq pc 88 then some (.iaload, 1, [], .inl 0, []) else none
       else
        bif Nat.beq pc 87 then some (.iadd, 1, [], .inl 0, []) else none
      else
       bif Nat.beq pc 86 then some (.iconst 1, 1, [], .inl (1), []) else none
     else
      bif Nat.ble 84 pc then
       bif Nat.beq pc 84 then some (.iload 4, 2, [], .inl 0, []) else none
      else
       bif Nat.beq pc 81 then some (.getfield 30, 3, [12, 776, 2], .inl 0, []) else none
   else
    bif Nat.ble 73 pc then
     bif Nat.ble 75 pc then
      bif Nat.ble 78 pc then
       bif Nat.ble 80 pc then
        bif Nat.beq pc 80 then some (.aload_n 0, 1, [], .inl 0, []) else none
       else
        bif Nat.beq pc 78 then some (.iload 4, 2, [], .inl 0, []) else none
      else
       bif Nat.beq pc 75 then some (.getfield 30, 3, [12, 776, 2], .inl 0, []) else none
     else
      bif Nat.ble 74 pc then
       bif Nat.beq pc 74 then some (.aload_n 0, 1, [], .inl 0, []) else none
      else
       bif Nat.beq pc 73 then some (.lastore, 1, [], .inl 0, []) else none
    else
     bif Nat.ble 70 pc then
      bif Nat.ble 71 pc then
       bif Nat.ble 72 pc then
        bif Nat.beq pc 72 then some (.laload, 1, [], .inl 0, []) else none
       else
        bif Nat.beq pc 71 then some (.iadd, 1, [], .inl 0, []) else none
      else
       bif Nat.beq pc 70 then some (.iconst 1, 1, [], .inl (1), []) else none
     else
      bif Nat.ble 68 pc then
       bif Nat.beq pc 68 then some (.iload 4, 2, [], .inl 0, []) else none
      else
       bif Nat.beq pc 65 then some (.getfield 27, 3, [12, 775, 2], .inl 0, []) else none
 else
  bif Nat.ble 34 pc then
   bif Nat.ble 47 pc then
    bif Nat.ble 55 pc then
     bif Nat.ble 59 pc then
      bif Nat.ble 62 pc then
       bif Nat.ble 64 pc then
        bif Nat.beq pc 64 then some (.aload_n 0, 1, [], .inl 0, []) else none
       else
        bif Nat.beq pc 62 then some (.iload 4, 2, [], .inl 0, []) else none
      else
       bif Nat.beq pc 59 then some (.getfield 27, 3, [12, 775, 2], .inl 0, []) else none
     else
      bif Nat.ble 56 pc then
       bif Nat.ble 58 pc then
        bif Nat.beq pc 58 then some (.aload_n 0, 1, [], .inl 0, []) else none
       else
        bif Nat.beq pc 56 then some (.istore 4, 2, [], .inl 0, []) else none
      else
       bif Nat.beq pc 55 then some (.iadd, 1, [], .inl 0, []) else none
    else
     bif Nat.ble 52 pc then
      bif Nat.ble 53 pc then
       bif Nat.ble 54 pc then
        bif Nat.beq pc 54 then some (.iload_n 3, 1, [], .inl 0, []) else none
       else
        bif Nat.beq pc 53 then some (.imul, 1, [], .inl 0, []) else none
      else
       bif Nat.beq pc 52 then some (.iload_n 1, 1, [], .inl 0, []) else none
     else
      bif Nat.ble 50 pc then
       bif Nat.beq pc 50 then some (.bipush 6, 2, [], .inl (6), []) else none
      else
       bif Nat.beq pc 47 then some (.if_icmp .ge 81, 3, [], .inl 0, []) else none
   else
    bif Nat.ble 39 pc then
     bif Nat.ble 42 pc then
      bif Nat.ble 45 pc then
       bif Nat.ble 46 pc then
        bif Nat.beq pc 46 then some (.iaload, 1, [], .inl 0, []) else none
       else
        bif Nat.beq pc 45 then some (.iload_n 1, 1, [], .inl 0, []) else none
      else
       bif Nat.beq pc 42 then some (.getfield 24, 3, [12, 774, 2], .inl 0, []) else none
     else
      bif Nat.ble 40 pc then
       bif Nat.ble 41 pc then
        bif Nat.beq pc 41 then some (.aload_n 0, 1, [], .inl 0, []) else none
       else
        bif Nat.beq pc 40 then some (.iload_n 3, 1, [], .inl 0, [2, 4]) else none
      else
       bif Nat.beq pc 39 then some (.istore_n 3, 1, [], .inl 0, []) else none
    else
     bif Nat.ble 36 pc then
      bif Nat.ble 37 pc then
       bif Nat.ble 38 pc then
        bif Nat.beq pc 38 then some (.iload_n 2, 1, [], .inl 0, []) else none
       else
        bif Nat.beq pc 37 then some (.iastore, 1, [], .inl 0, []) else none
      else
       bif Nat.beq pc 36 then some (.isub, 1, [], .inl 0, []) else none
     else
      bif Nat.ble 35 pc then
       bif Nat.beq pc 35 then some (.iconst 1, 1, [], .inl (1), []) else none
      else
       bif Nat.beq pc 34 then some (.iaload, 1, [], .inl 0, []) else none
  else
   bif Nat.ble 18 pc then
    bif Nat.ble 24 pc then
     bif Nat.ble 29 pc then
      bif Nat.ble 32 pc then
       bif Nat.ble 33 pc then
        bif Nat.beq pc 33 then some (.dup2, 1, [], .inl 0, []) else none
       else
        bif Nat.beq pc 32 then some (.iload_n 1, 1, [], .inl 0, []) else none
      else
       bif Nat.beq pc 29 then some (.getfield 24, 3, [12, 774, 2], .inl 0, []) else none
     else
      bif Nat.ble 25 pc then
       bif Nat.ble 28 pc then
        bif Nat.beq pc 28 then some (.aload_n 0, 1, [], .inl 0, []) else none
       else
        bif Nat.beq pc 25 then some (.invokevirtual 251, 3, [181, 4, 0, 8, 12], .inl 0, []) else none
      else
       bif Nat.beq pc 24 then some (.iconst 1, 1, [], .inl (1), []) else none
    else
     bif Nat.ble 21 pc then
      bif Nat.ble 22 pc then
       bif Nat.ble 23 pc then
        bif Nat.beq pc 23 then some (.iload_n 2, 1, [], .inl 0, []) else none
       else
        bif Nat.beq pc 22 then some (.iload_n 1, 1, [], .inl 0, []) else none
      else
       bif Nat.beq pc 21 then some (.aload_n 0, 1, [], .inl 0, []) else none
     else
      bif Nat.ble 20 pc then
       bif Nat.beq pc 20 then some (.ireturn, 1, [], .inl 0, []) else none
      else
       bif Nat.beq pc 18 then some (.bipush (-2), 2, [], .inl (-2), []) else none
   else
    bif Nat.ble 9 pc then
     bif Nat.ble 11 pc then
      bif Nat.ble 12 pc then
       bif Nat.ble 15 pc then
        bif Nat.beq pc 15 then some (.ifCond .le 6, 3, [], .inl 0, []) else none
       else
        bif Nat.beq pc 12 then some (.getfield 189, 3, [12, 791, 0], .inl 0, []) else none
      else
       bif Nat.beq pc 11 then some (.aload_n 0, 1, [], .inl 0, []) else none
     else
      bif Nat.ble 10 pc then
       bif Nat.beq pc 10 then some (.ireturn, 1, [], .inl 0, []) else none
      else
       bif Nat.beq pc 9 then some (.iconst (-1), 1, [], .inl (-1), []) else none
    else
     bif Nat.ble 2 pc then
      bif Nat.ble 3 pc then
       bif Nat.ble 6 pc then
        bif Nat.beq pc 6 then some (.ifCond .ne 5, 3, [], .inl 0, []) else none
       else
        bif Nat.beq pc 3 then some (.invokevirtual 248, 3, [162, 3, 1, 3, 12], .inl 0, []) else none
      else
       bif Nat.beq pc 2 then some (.iload_n 2, 1, [], .inl 0, []) else none
     else
      bif Nat.ble 1 pc then
       bif Nat.beq pc 1 then some (.iload_n 1, 1, [], .inl 0, []) else none
      else
       bif Nat.beq pc 0 then some (.aload_n 0, 1, [], .inl 0, []) else none
def kX12_becomes (pc : Nat) : Option Ent := bif Nat.ble 67 pc then none else
 bif Nat.ble 38 pc then
  bif Nat.ble 51 pc then
   bif Nat.ble 57 pc then
    bif Nat.ble 61 pc then
     bif Nat.ble 64 pc then
      bif Nat.ble 66 pc then
       bif Nat.beq pc 66 then some (.ireturn, 1, [], .inl 0, []) else none
      else
       bif Nat.beq pc 64 then some (.iload 5, 2, [], .inl 0, []) else none
     else
      bif Nat.beq pc 61 then some (.invokevirtual 238, 3, [180, 4, 0, 4, 12], .inl 0, []) else none
    else
     bif Nat.ble 58 pc then
      bif Nat.ble 59 pc then
       bif Nat.beq pc 59 then some (.iload 4, 2, [], .inl 0, []) else none
      else
       bif Nat.beq pc 58 then some (.iload_n 3, 1, [], .inl 0, []) else none
     else
      bif Nat.beq pc 57 then some (.iadd, 1, [], .inl 0, []) else none
   else
    bif Nat.ble 54 pc then
     bif Nat.ble 55 pc then
      bif Nat.ble 56 pc then
       bif Nat.beq pc 56 then some (.iload_n 2, 1, [], .inl 0, []) else none
      else
       bif Nat.beq pc 55 then some (.imul, 1, [], .inl 0, []) else none
     else
      bif Nat.beq pc 54 then some (.iload_n 1, 1, [], .inl 0, []) else none
    else
     bif Nat.ble 52 pc then
      bif Nat.beq pc 52 then some (.bipush 6, 2, [], .inl (6), []) else none
     else
      bif Nat.beq pc 51 then some (.aload_n 0, 1, [], .inl 0, []) else none
  else
   bif Nat.ble 44 pc then
    bif Nat.ble 46 pc then
     bif Nat.ble 47 pc then
      bif Nat.ble 48 pc then
       bif Nat.beq pc 48 then some (.invokevirtual 251, 3, [181, 4, 0, 8, 12], .inl 0, []) else none
      else
       bif Nat.beq pc 47 then some (.iconst 0, 1, [], .inl (0), []) else none
     else
      bif Nat.beq pc 46 then some (.iload_n 2, 1, [], .inl 0, []) else none
    else
     bif Nat.ble 45 pc then
      bif Nat.beq pc 45 then some (.iload_n 1, 1, [], .inl 0, []) else none
     else
      bif Nat.beq pc 44 then some (.aload_n 0, 1, [], .inl 0, []) else none
   else
    bif Nat.ble 40 pc then
     bif Nat.ble 41 pc then
      bif Nat.ble 42 pc then
       bif Nat.beq pc 42 then some (.istore 5, 2, [], .inl 0, []) else none
      else
       bif Nat.beq pc 41 then some (.iaload, 1, [], .inl 0, []) else none
     else
      bif Nat.beq pc 40 then some (.iadd, 1, [], .inl 0, []) else none
    else
     bif Nat.ble 39 pc then
      bif Nat.beq pc 39 then some (.iload_n 2, 1, [], .inl 0, []) else none
     else
      bif Nat.beq pc 38 then some (.imul, 1, [], .inl 0, []) else none
 else
  bif Nat.ble 19 pc then
   bif Nat.ble 28 pc then
    bif Nat.ble 32 pc then
     bif Nat.ble 35 pc then
      bif Nat.ble 37 pc then
       bif Nat.beq pc 37 then some (.iload_n 1, 1, [], .inl 0, []) else none
      else
       bif Nat.beq pc 35 then some (.bipush 6, 2, [], .inl (6), []) else none
     else
      bif Nat.beq pc 32 then some (.getfield 30, 3, [12, 776, 2], .inl 0, []) else none
    else
     bif Nat.ble 30 pc then
      bif Nat.ble 31 pc then
       bif Nat.beq pc 31 then some (.aload_n 0, 1, [], .inl 0, []) else none
      else
       bif Nat.beq pc 30 then some (.ireturn, 1, [], .inl 0, []) else none
     else
      bif Nat.beq pc 28 then some (.bipush (-2), 2, [], .inl (-2), []) else none
   else
    bif Nat.ble 21 pc then
     bif Nat.ble 22 pc then
      bif Nat.ble 25 pc then
       bif Nat.beq pc 25 then some (.ifCond .le 6, 3, [], .inl 0, []) else none
      else
       bif Nat.beq pc 22 then some (.getfield 189, 3, [12, 791, 0], .inl 0, []) else none
     else
      bif Nat.beq pc 21 then some (.aload_n 0, 1, [], .inl 0, []) else none
    else
     bif Nat.ble 20 pc then
      bif Nat.beq pc 20 then some (.ireturn, 1, [], .inl 0, []) else none
     else
      bif Nat.beq pc 19 then some (.iconst (-1), 1, [], .inl (-1), []) else none
  else
   bif Nat.ble 9 pc then
    bif Nat.ble 11 pc then
     bif Nat.ble 13 pc then
      bif Nat.ble 16 pc then
       bif Nat.beq pc 16 then some (.ifCond .ne 5, 3, [], .inl 0, []) else none
      else
       bif Nat.beq pc 13 then some (.invokevirtual 235, 3, [176, 3, 1, 3, 12], .inl 0, []) else none
     else
      bif Nat.beq pc 11 then some (.iload 4, 2, [], .inl 0, []) else none
    else
     bif Nat.ble 10 pc then
      bif Nat.beq pc 10 then some (.iload_n 3, 1, [], .inl 0, []) else none
     else
      bif Nat.beq pc 9 then some (.aload_n 0, 1, [], .inl 0, []) else none
   else
    bif Nat.ble 2 pc then
     bif Nat.ble 3 pc then
      bif Nat.ble 6 pc then
       bif Nat.beq pc 6 then some (.ifCond .eq 13, 3, [], .inl 0, []) else none
      else
       bif Nat.beq pc 3 then some (.invokevirtual 248, 3, [162, 3, 1, 3, 12], .inl 0, []) else none
     else
      bif Nat.beq pc 2 then some (.iload_n 2, 1, [], .inl 0, []) else none
    else
     bif Nat.ble 1 pc then
      bif Nat.beq pc 1 then some (.iload_n 1, 1, [], .inl 0, []) else none
     else
      bif Nat.beq pc 0 then some (.aload_n 0, 1, [], .inl 0, []) else none
def kX12_isCheck (pc : Nat) : Option Ent := bif Nat.ble 138 pc then none else
 bif Nat.ble 87 pc then
  bif Nat.ble 111 pc then
   bif Nat.ble 123 pc then
    bif Nat.ble 132 pc then
     bif Nat.ble 136 pc then
      bif Nat.ble 137 pc then
       bif Nat.beq pc 137 then some (.ireturn, 1, [1], .inl 0, []) else none
      else
       bif Nat.beq pc 136 then some (.iconst 0, 1, [], .inl (0), []) else none
     else
      bif Nat.ble 133 pc then
       bif Nat.beq pc 133 then some (.goto 4, 3, [], .inl 0, []) else none
      else
       bif Nat.beq pc 132 then some (.iconst 1, 1, [], .inl (1), []) else none
    else
     bif Nat.ble 127 pc then
      bif Nat.ble 129 pc then
       bif Nat.beq pc 129 then some (.if_icmp .ne 7, 3, [], .inl 0, []) else none
      else
       bif Nat.beq pc 127 then some (.bipush 8, 2, [], .inl (8), []) else none
     else
      bif Nat.ble 126 pc then
       bif Nat.beq pc 126 then some (.iload_n 1, 1, [], .inl 0, []) else none
      else
       bif Nat.beq pc 123 then some (.if_icmp .ne 13, 3, [], .inl 0, []) else none
   else
    bif Nat.ble 118 pc then
     bif Nat.ble 120 pc then
      bif Nat.ble 121 pc then
       bif Nat.beq pc 121 then some (.bipush 6, 2, [], .inl (6), []) else none
      else
       bif Nat.beq pc 120 then some (.iload_n 0, 1, [], .inl 0, []) else none
     else
      bif Nat.ble 119 pc then
       bif Nat.beq pc 119 then some (.ireturn, 1, [1], .inl 0, []) else none
      else
       bif Nat.beq pc 118 then some (.iconst 0, 1, [], .inl (0), []) else none
    else
     bif Nat.ble 114 pc then
      bif Nat.ble 115 pc then
       bif Nat.beq pc 115 then some (.goto 4, 3, [], .inl 0, []) else none
      else
       bif Nat.beq pc 114 then some (.iconst 1, 1, [], .inl (1), []) else none
     else
      bif Nat.beq pc 111 then some (.if_icmp .ne 7, 3, [], .inl 0, []) else none
  else
   bif Nat.ble 99 pc then
    bif Nat.ble 106 pc then
     bif Nat.ble 108 pc then
      bif Nat.ble 109 pc then
       bif Nat.beq pc 109 then some (.bipush 11, 2, [], .inl (11), []) else none
      else
       bif Nat.beq pc 108 then some (.iload_n 1, 1, [], .inl 0, []) else none
     else
      bif Nat.ble 107 pc then
       bif Nat.beq pc 107 then some (.ireturn, 1, [1], .inl 0, []) else none
      else
       bif Nat.beq pc 106 then some (.iconst 0, 1, [], .inl (0), []) else none
    else
     bif Nat.ble 102 pc then
      bif Nat.ble 103 pc then
       bif Nat.beq pc 103 then some (.goto 4, 3, [], .inl 0, []) else none
      else
       bif Nat.beq pc 102 then some (.iconst 1, 1, [], .inl (1), []) else none
     else
      bif Nat.beq pc 99 then some (.if_icmp .ne 7, 3, [], .inl 0, []) else none
   else
    bif Nat.ble 92 pc then
     bif Nat.ble 96 pc then
      bif Nat.ble 97 pc then
       bif Nat.beq pc 97 then some (.bipush 10, 2, [], .inl (10), []) else none
      else
       bif Nat.beq pc 96 then some (.iload_n 1, 1, [], .inl 0, []) else none
     else
      bif Nat.ble 95 pc then
       bif Nat.beq pc 95 then some (.ireturn, 1, [1], .inl 0, []) else none
      else
       bif Nat.beq pc 92 then some (.invokestatic 169, 3, [157, 3, 1, 6, 100], .inl 0, []) else none
    else
     bif Nat.ble 88 pc then
      bif Nat.ble 89 pc then
       bif Nat.beq pc 89 then some (.ldc2_w 257, 3, [], .inr (.inl (4)), []) else none
      else
       bif Nat.beq pc 88 then some (.lconst 1, 1, [], .inr (.inl (1)), []) else none
     else
      bif Nat.beq pc 87 then some (.i2l, 1, [], .inl 0, []) else none
 else
  bif Nat.ble 61 pc then
   bif Nat.ble 75 pc then
    bif Nat.ble 79 pc then
     bif Nat.ble 85 pc then
      bif Nat.ble 86 pc then
       bif Nat.beq pc 86 then some (.iload_n 1, 1, [], .inl 0, []) else none
      else
       bif Nat.beq pc 85 then some (.ireturn, 1, [1], .inl 0, []) else none
     else
      bif Nat.ble 82 pc then
       bif Nat.beq pc 82 then some (.invokestatic 169, 3, [157, 3, 1, 6, 100], .inl 0, []) else none
      else
       bif Nat.beq pc 79 then some (.ldc2_w 255, 3, [], .inr (.inl (5)), []) else none
    else
     bif Nat.ble 77 pc then
      bif Nat.ble 78 pc then
       bif Nat.beq pc 78 then some (.lconst 1, 1, [], .inr (.inl (1)), []) else none
      else
       bif Nat.beq pc 77 then some (.i2l, 1, [], .inl 0, []) else none
     else
      bif Nat.ble 76 pc then
       bif Nat.beq pc 76 then some (.iload_n 1, 1, [], .inl 0, []) else none
      else
       bif Nat.beq pc 75 then some (.ireturn, 1, [1], .inl 0, []) else none
   else
    bif Nat.ble 67 pc then
     bif Nat.ble 71 pc then
      bif Nat.ble 74 pc then
       bif Nat.beq pc 74 then some (.iconst 0, 1, [], .inl (0), []) else none
      else
       bif Nat.beq pc 71 then some (.goto 4, 3, [], .inl 0, []) else none
     else
      bif Nat.ble 70 pc then
       bif Nat.beq pc 70 then some (.iconst 1, 1, [], .inl (1), []) else none
      else
       bif Nat.beq pc 67 then some (.if_icmp .ne 7, 3, [], .inl 0, []) else none
    else
     bif Nat.ble 64 pc then
      bif Nat.ble 65 pc then
       bif Nat.beq pc 65 then some (.bipush 11, 2, [], .inl (11), []) else none
      else
       bif Nat.beq pc 64 then some (.iload_n 1, 1, [], .inl 0, []) else none
     else
      bif Nat.beq pc 61 then some (.if_icmp .eq 9, 3, [], .inl 0, []) else none
  else
   bif Nat.ble 50 pc then
    bif Nat.ble 53 pc then
     bif Nat.ble 58 pc then
      bif Nat.ble 59 pc then
       bif Nat.beq pc 59 then some (.bipush 10, 2, [], .inl (10), []) else none
      else
       bif Nat.beq pc 58 then some (.iload_n 1, 1, [], .inl 0, []) else none
     else
      bif Nat.ble 55 pc then
       bif Nat.beq pc 55 then some (.if_icmp .eq 15, 3, [], .inl 0, []) else none
      else
       bif Nat.beq pc 53 then some (.bipush 8, 2, [], .inl (8), []) else none
    else
     bif Nat.ble 51 pc then
      bif Nat.ble 52 pc then
       bif Nat.beq pc 52 then some (.iload_n 1, 1, [], .inl 0, []) else none
      else
       bif Nat.beq pc 51 then some (.ireturn, 1, [1], .inl 0, []) else none
     else
      bif Nat.beq pc 50 then some (.iconst 0, 1, [], .inl (0), []) else none
   else
    bif Nat.ble 41 pc then
     bif Nat.ble 46 pc then
      bif Nat.ble 47 pc then
       bif Nat.beq pc 47 then some (.goto 4, 3, [], .inl 0, []) else none
      else
       bif Nat.beq pc 46 then some (.iconst 1, 1, [], .inl (1), []) else none
     else
      bif Nat.ble 43 pc then
       bif Nat.beq pc 43 then some (.if_icmp .ge 7, 3, [], .inl 0, []) else none
      else
       bif Nat.beq pc 41 then some (.bipush 8, 2, [], .inl (8), []) else none
    else
     bif Nat.ble 1 pc then
      bif Nat.ble 40 pc then
       bif Nat.beq pc 40 then some (.iload_n 1, 1, [], .inl 0, []) else none
      else
       bif Nat.beq pc 1 then some (.tableswitch 119 0 5 #[39, 51, 75, 85, 95, 107], 39, [], .inl 0, []) else none
     else
      bif Nat.beq pc 0 then some (.iload_n 0, 1, [], .inl 0, []) else none
def kX12_check (pc : Nat) : Option Ent := bif Nat.ble 115 pc then none else
 bif Nat.ble 59 pc then
  bif Nat.ble 88 pc then
   bif Nat.ble 103 pc then
    bif Nat.ble 108 pc then
     bif Nat.ble 112 pc then
      bif Nat.ble 113 pc then
       bif Nat.ble 114 pc then
        bif Nat.beq pc 114 then some (.ireturn, 1, [], .inl 0, []) else none
       else
        bif Nat.beq pc 113 then some (.iaload, 1, [], .inl 0, []) else none
      else
       bif Nat.beq pc 112 then some (.iload_n 1, 1, [], .inl 0, []) else none
     else
      bif Nat.ble 109 pc then
       bif Nat.beq pc 109 then some (.getfield 39, 3, [12, 779, 2], .inl 0, []) else none
      else
       bif Nat.beq pc 108 then some (.aload_n 0, 1, [], .inl 0, []) else none
    else
     bif Nat.ble 105 pc then
      bif Nat.ble 106 pc then
       bif Nat.ble 107 pc then
        bif Nat.beq pc 107 then some (.iastore, 1, [], .inl 0, []) else none
       else
        bif Nat.beq pc 106 then some (.iadd, 1, [], .inl 0, []) else none
      else
       bif Nat.beq pc 105 then some (.iconst 1, 1, [], .inl (1), []) else none
     else
      bif Nat.ble 104 pc then
       bif Nat.beq pc 104 then some (.iaload, 1, [], .inl 0, []) else none
      else
       bif Nat.beq pc 103 then some (.dup2, 1, [], .inl 0, []) else none
   else
    bif Nat.ble 95 pc then
     bif Nat.ble 98 pc then
      bif Nat.ble 99 pc then
       bif Nat.ble 102 pc then
        bif Nat.beq pc 102 then some (.iload_n 1, 1, [], .inl 0, []) else none
       else
        bif Nat.beq pc 99 then some (.getfield 39, 3, [12, 779, 2], .inl 0, []) else none
      else
       bif Nat.beq pc 98 then some (.aload_n 0, 1, [], .inl 0, []) else none
     else
      bif Nat.ble 97 pc then
       bif Nat.beq pc 97 then some (.lastore, 1, [], .inl 0, []) else none
      else
       bif Nat.beq pc 95 then some (.lload 6, 2, [], .inl 0, []) else none
    else
     bif Nat.ble 90 pc then
      bif Nat.ble 93 pc then
       bif Nat.beq pc 93 then some (.iload 8, 2, [], .inl 0, []) else none
      else
       bif Nat.beq pc 90 then some (.getfield 51, 3, [12, 783, 2], .inl 0, []) else none
     else
      bif Nat.ble 89 pc then
       bif Nat.beq pc 89 then some (.aload_n 0, 1, [], .inl 0, []) else none
      else
       bif Nat.beq pc 88 then some (.lastore, 1, [], .inl 0, []) else none
  else
   bif Nat.ble 72 pc then
    bif Nat.ble 79 pc then
     bif Nat.ble 81 pc then
      bif Nat.ble 84 pc then
       bif Nat.ble 86 pc then
        bif Nat.beq pc 86 then some (.lload 4, 2, [], .inl 0, []) else none
       else
        bif Nat.beq pc 84 then some (.iload 8, 2, [], .inl 0, []) else none
      else
       bif Nat.beq pc 81 then some (.getfield 48, 3, [12, 782, 2], .inl 0, []) else none
     else
      bif Nat.ble 80 pc then
       bif Nat.beq pc 80 then some (.aload_n 0, 1, [], .inl 0, []) else none
      else
       bif Nat.beq pc 79 then some (.iastore, 1, [], .inl 0, []) else none
    else
     bif Nat.ble 76 pc then
      bif Nat.ble 78 pc then
       bif Nat.beq pc 78 then some (.iload_n 3, 1, [], .inl 0, []) else none
      else
       bif Nat.beq pc 76 then some (.iload 8, 2, [], .inl 0, []) else none
     else
      bif Nat.ble 73 pc then
       bif Nat.beq pc 73 then some (.getfield 45, 3, [12, 781, 2], .inl 0, []) else none
      else
       bif Nat.beq pc 72 then some (.aload_n 0, 1, [], .inl 0, []) else none
   else
    bif Nat.ble 64 pc then
     bif Nat.ble 68 pc then
      bif Nat.ble 70 pc then
       bif Nat.ble 71 pc then
        bif Nat.beq pc 71 then some (.iastore, 1, [], .inl 0, []) else none
       else
        bif Nat.beq pc 70 then some (.iload_n 2, 1, [], .inl 0, []) else none
      else
       bif Nat.beq pc 68 then some (.iload 8, 2, [], .inl 0, []) else none
     else
      bif Nat.ble 65 pc then
       bif Nat.beq pc 65 then some (.getfield 42, 3, [12, 780, 2], .inl 0, []) else none
      else
       bif Nat.beq pc 64 then some (.aload_n 0, 1, [], .inl 0, []) else none
    else
     bif Nat.ble 61 pc then
      bif Nat.ble 62 pc then
       bif Nat.beq pc 62 then some (.istore 8, 2, [], .inl 0, []) else none
      else
       bif Nat.beq pc 61 then some (.iadd, 1, [], .inl 0, []) else none
     else
      bif Nat.ble 60 pc then
       bif Nat.beq pc 60 then some (.iaload, 1, [], .inl 0, []) else none
      else
       bif Nat.beq pc 59 then some (.iload_n 1, 1, [], .inl 0, []) else none
 else
  bif Nat.ble 29 pc then
   bif Nat.ble 45 pc then
    bif Nat.ble 52 pc then
     bif Nat.ble 54 pc then
      bif Nat.ble 55 pc then
       bif Nat.ble 56 pc then
        bif Nat.beq pc 56 then some (.getfield 39, 3, [12, 779, 2], .inl 0, []) else none
       else
        bif Nat.beq pc 55 then some (.aload_n 0, 1, [], .inl 0, []) else none
      else
       bif Nat.beq pc 54 then some (.imul, 1, [], .inl 0, []) else none
     else
      bif Nat.ble 53 pc then
       bif Nat.beq pc 53 then some (.iload_n 1, 1, [], .inl 0, []) else none
      else
       bif Nat.beq pc 52 then some (.iconst 4, 1, [], .inl (4), []) else none
    else
     bif Nat.ble 49 pc then
      bif Nat.ble 51 pc then
       bif Nat.beq pc 51 then some (.ireturn, 1, [], .inl 0, []) else none
      else
       bif Nat.beq pc 49 then some (.bipush (-3), 2, [], .inl (-3), []) else none
     else
      bif Nat.ble 46 pc then
       bif Nat.beq pc 46 then some (.if_icmp .ne 6, 3, [], .inl 0, []) else none
      else
       bif Nat.beq pc 45 then some (.iconst 4, 1, [], .inl (4), []) else none
   else
    bif Nat.ble 38 pc then
     bif Nat.ble 40 pc then
      bif Nat.ble 43 pc then
       bif Nat.ble 44 pc then
        bif Nat.beq pc 44 then some (.iaload, 1, [], .inl 0, []) else none
       else
        bif Nat.beq pc 43 then some (.iload_n 1, 1, [], .inl 0, []) else none
      else
       bif Nat.beq pc 40 then some (.getfield 39, 3, [12, 779, 2], .inl 0, []) else none
     else
      bif Nat.ble 39 pc then
       bif Nat.beq pc 39 then some (.aload_n 0, 1, [], .inl 0, []) else none
      else
       bif Nat.beq pc 38 then some (.ireturn, 1, [], .inl 0, []) else none
    else
     bif Nat.ble 33 pc then
      bif Nat.ble 36 pc then
       bif Nat.beq pc 36 then some (.bipush (-2), 2, [], .inl (-2), []) else none
      else
       bif Nat.beq pc 33 then some (.ifCond .le 6, 3, [], .inl 0, []) else none
     else
      bif Nat.ble 30 pc then
       bif Nat.beq pc 30 then some (.getfield 189, 3, [12, 791, 0], .inl 0, []) else none
      else
       bif Nat.beq pc 29 then some (.aload_n 0, 1, [], .inl 0, []) else none
  else
   bif Nat.ble 16 pc then
    bif Nat.ble 20 pc then
     bif Nat.ble 24 pc then
      bif Nat.ble 27 pc then
       bif Nat.ble 28 pc then
        bif Nat.beq pc 28 then some (.ireturn, 1, [], .inl 0, []) else none
       else
        bif Nat.beq pc 27 then some (.iconst (-1), 1, [], .inl (-1), []) else none
      else
       bif Nat.beq pc 24 then some (.ifCond .ne 5, 3, [], .inl 0, []) else none
     else
      bif Nat.ble 21 pc then
       bif Nat.beq pc 21 then some (.invokestatic 259, 3, [184, 2, 1, 2, 100], .inl 0, []) else none
      else
       bif Nat.beq pc 20 then some (.iaload, 1, [], .inl 0, []) else none
    else
     bif Nat.ble 18 pc then
      bif Nat.ble 19 pc then
       bif Nat.beq pc 19 then some (.iadd, 1, [], .inl 0, []) else none
      else
       bif Nat.beq pc 18 then some (.iload_n 2, 1, [], .inl 0, []) else none
     else
      bif Nat.ble 17 pc then
       bif Nat.beq pc 17 then some (.imul, 1, [], .inl 0, []) else none
      else
       bif Nat.beq pc 16 then some (.iload_n 1, 1, [], .inl 0, []) else none
   else
    bif Nat.ble 6 pc then
     bif Nat.ble 10 pc then
      bif Nat.ble 11 pc then
       bif Nat.ble 14 pc then
        bif Nat.beq pc 14 then some (.bipush 6, 2, [], .inl (6), []) else none
       else
        bif Nat.beq pc 11 then some (.getfield 30, 3, [12, 776, 2], .inl 0, []) else none
      else
       bif Nat.beq pc 10 then some (.aload_n 0, 1, [], .inl 0, []) else none
     else
      bif Nat.ble 9 pc then
       bif Nat.beq pc 9 then some (.iload_n 3, 1, [], .inl 0, []) else none
      else
       bif Nat.beq pc 6 then some (.ifCond .eq 21, 3, [], .inl 0, []) else none
    else
     bif Nat.ble 2 pc then
      bif Nat.ble 3 pc then
       bif Nat.beq pc 3 then some (.invokevirtual 248, 3, [162, 3, 1, 3, 12], .inl 0, []) else none
      else
       bif Nat.beq pc 2 then some (.iload_n 2, 1, [], .inl 0, []) else none
     else
      bif Nat.ble 1 pc then
       bif Nat.beq pc 1 then some (.iload_n 1, 1, [], .inl 0, []) else none
      else
       bif Nat.beq pc 0 then some (.aload_n 0, 1, [], .inl 0, []) else none
def kX12_build (pc : Nat) : Option Ent := bif Nat.ble 139 pc then none else
 bif Nat.ble 68 pc then
  bif Nat.ble 103 pc then
   bif Nat.ble 121 pc then
    bif Nat.ble 130 pc then
     bif Nat.ble 134 pc then
      bif Nat.ble 137 pc then
       bif Nat.ble 138 pc then
        bif Nat.beq pc 138 then some (.ireturn, 1, [], .inl 0, []) else none
       else
        bif Nat.beq pc 137 then some (.iload_n 1, 1, [], .inl 0, []) else none
      else
       bif Nat.beq pc 134 then some (.goto (-17), 3, [], .inl 0, []) else none
     else
      bif Nat.ble 131 pc then
       bif Nat.beq pc 131 then some (.iinc 2 1, 3, [], .inl (1), []) else none
      else
       bif Nat.beq pc 130 then some (.iastore, 1, [], .inl 0, []) else none
    else
     bif Nat.ble 125 pc then
      bif Nat.ble 128 pc then
       bif Nat.ble 129 pc then
        bif Nat.beq pc 129 then some (.iconst (-1), 1, [], .inl (-1), []) else none
       else
        bif Nat.beq pc 128 then some (.iload_n 2, 1, [], .inl 0, []) else none
      else
       bif Nat.beq pc 125 then some (.getfield 145, 3, [12, 824, 2], .inl 0, []) else none
     else
      bif Nat.ble 124 pc then
       bif Nat.beq pc 124 then some (.aload_n 0, 1, [], .inl 0, []) else none
      else
       bif Nat.beq pc 121 then some (.if_icmp .ge 16, 3, [], .inl 0, []) else none
   else
    bif Nat.ble 112 pc then
     bif Nat.ble 116 pc then
      bif Nat.ble 117 pc then
       bif Nat.ble 118 pc then
        bif Nat.beq pc 118 then some (.sipush 384, 3, [], .inl (384), []) else none
       else
        bif Nat.beq pc 117 then some (.iload_n 2, 1, [], .inl 0, []) else none
      else
       bif Nat.beq pc 116 then some (.istore_n 2, 1, [], .inl 0, []) else none
     else
      bif Nat.ble 115 pc then
       bif Nat.beq pc 115 then some (.iconst 0, 1, [], .inl (0), []) else none
      else
       bif Nat.beq pc 112 then some (.goto (-16), 3, [], .inl 0, []) else none
    else
     bif Nat.ble 107 pc then
      bif Nat.ble 108 pc then
       bif Nat.ble 109 pc then
        bif Nat.beq pc 109 then some (.iinc 2 1, 3, [], .inl (1), []) else none
       else
        bif Nat.beq pc 108 then some (.iastore, 1, [], .inl 0, []) else none
      else
       bif Nat.beq pc 107 then some (.iconst (-1), 1, [], .inl (-1), []) else none
     else
      bif Nat.ble 106 pc then
       bif Nat.beq pc 106 then some (.iload_n 2, 1, [], .inl 0, []) else none
      else
       bif Nat.beq pc 103 then some (.getfield 142, 3, [12, 823, 2], .inl 0, []) else none
  else
   bif Nat.ble 86 pc then
    bif Nat.ble 95 pc then
     bif Nat.ble 97 pc then
      bif Nat.ble 99 pc then
       bif Nat.ble 102 pc then
        bif Nat.beq pc 102 then some (.aload_n 0, 1, [], .inl 0, []) else none
       else
        bif Nat.beq pc 99 then some (.if_icmp .ge 16, 3, [], .inl 0, []) else none
      else
       bif Nat.beq pc 97 then some (.bipush 64, 2, [], .inl (64), []) else none
     else
      bif Nat.ble 96 pc then
       bif Nat.beq pc 96 then some (.iload_n 2, 1, [], .inl 0, []) else none
      else
       bif Nat.beq pc 95 then some (.istore_n 2, 1, [], .inl 0, []) else none
    else
     bif Nat.ble 88 pc then
      bif Nat.ble 91 pc then
       bif Nat.ble 94 pc then
        bif Nat.beq pc 94 then some (.iconst 0, 1, [], .inl (0), []) else none
       else
        bif Nat.beq pc 91 then some (.goto (-15), 3, [], .inl 0, []) else none
      else
       bif Nat.beq pc 88 then some (.iinc 2 1, 3, [], .inl (1), []) else none
     else
      bif Nat.ble 87 pc then
       bif Nat.beq pc 87 then some (.bastore, 1, [], .inl 0, []) else none
      else
       bif Nat.beq pc 86 then some (.iconst 0, 1, [], .inl (0), []) else none
   else
    bif Nat.ble 77 pc then
     bif Nat.ble 81 pc then
      bif Nat.ble 82 pc then
       bif Nat.ble 85 pc then
        bif Nat.beq pc 85 then some (.iload_n 2, 1, [], .inl 0, []) else none
       else
        bif Nat.beq pc 82 then some (.getfield 69, 3, [12, 796, 2], .inl 0, []) else none
      else
       bif Nat.beq pc 81 then some (.aload_n 0, 1, [], .inl 0, []) else none
     else
      bif Nat.ble 78 pc then
       bif Nat.beq pc 78 then some (.if_icmp .ge 16, 3, [], .inl 0, []) else none
      else
       bif Nat.beq pc 77 then some (.iconst 4, 1, [], .inl (4), []) else none
    else
     bif Nat.ble 74 pc then
      bif Nat.ble 75 pc then
       bif Nat.ble 76 pc then
        bif Nat.beq pc 76 then some (.iload_n 2, 1, [], .inl 0, []) else none
       else
        bif Nat.beq pc 75 then some (.istore_n 2, 1, [], .inl 0, []) else none
      else
       bif Nat.beq pc 74 then some (.iconst 0, 1, [], .inl (0), []) else none
     else
      bif Nat.ble 71 pc then
       bif Nat.beq pc 71 then some (.goto (-16), 3, [], .inl 0, []) else none
      else
       bif Nat.beq pc 68 then some (.iinc 2 1, 3, [], .inl (1), []) else none
 else
  bif Nat.ble 35 pc then
   bif Nat.ble 53 pc then
    bif Nat.ble 61 pc then
     bif Nat.ble 65 pc then
      bif Nat.ble 66 pc then
       bif Nat.ble 67 pc then
        bif Nat.beq pc 67 then some (.bastore, 1, [], .inl 0, []) else none
       else
        bif Nat.beq pc 66 then some (.iconst 0, 1, [], .inl (0), []) else none
      else
       bif Nat.beq pc 65 then some (.iload_n 2, 1, [], .inl 0, []) else none
     else
      bif Nat.ble 62 pc then
       bif Nat.beq pc 62 then some (.getfield 66, 3, [12, 795, 2], .inl 0, []) else none
      else
       bif Nat.beq pc 61 then some (.aload_n 0, 1, [], .inl 0, []) else none
    else
     bif Nat.ble 55 pc then
      bif Nat.ble 56 pc then
       bif Nat.ble 58 pc then
        bif Nat.beq pc 58 then some (.if_icmp .ge 16, 3, [], .inl 0, []) else none
       else
        bif Nat.beq pc 56 then some (.bipush 14, 2, [], .inl (14), []) else none
      else
       bif Nat.beq pc 55 then some (.iload_n 2, 1, [], .inl 0, []) else none
     else
      bif Nat.ble 54 pc then
       bif Nat.beq pc 54 then some (.istore_n 2, 1, [], .inl 0, []) else none
      else
       bif Nat.beq pc 53 then some (.iconst 0, 1, [], .inl (0), []) else none
   else
    bif Nat.ble 44 pc then
     bif Nat.ble 48 pc then
      bif Nat.ble 49 pc then
       bif Nat.ble 50 pc then
        bif Nat.beq pc 50 then some (.putfield 271, 3, [12, 798, 0], .inl 0, []) else none
       else
        bif Nat.beq pc 49 then some (.iconst 0, 1, [], .inl (0), []) else none
      else
       bif Nat.beq pc 48 then some (.aload_n 0, 1, [], .inl 0, []) else none
     else
      bif Nat.ble 45 pc then
       bif Nat.beq pc 45 then some (.putfield 268, 3, [12, 794, 0], .inl 0, []) else none
      else
       bif Nat.beq pc 44 then some (.iconst 0, 1, [], .inl (0), []) else none
    else
     bif Nat.ble 39 pc then
      bif Nat.ble 40 pc then
       bif Nat.ble 43 pc then
        bif Nat.beq pc 43 then some (.aload_n 0, 1, [], .inl 0, []) else none
       else
        bif Nat.beq pc 40 then some (.putfield 265, 3, [12, 793, 0], .inl 0, []) else none
      else
       bif Nat.beq pc 39 then some (.iconst 0, 1, [], .inl (0), []) else none
     else
      bif Nat.ble 38 pc then
       bif Nat.beq pc 38 then some (.aload_n 0, 1, [], .inl 0, []) else none
      else
       bif Nat.beq pc 35 then some (.putfield 262, 3, [12, 792, 0], .inl 0, []) else none
  else
   bif Nat.ble 19 pc then
    bif Nat.ble 28 pc then
     bif Nat.ble 30 pc then
      bif Nat.ble 33 pc then
       bif Nat.ble 34 pc then
        bif Nat.beq pc 34 then some (.iconst 0, 1, [], .inl (0), []) else none
       else
        bif Nat.beq pc 33 then some (.aload_n 0, 1, [], .inl 0, []) else none
      else
       bif Nat.beq pc 30 then some (.putfield 189, 3, [12, 791, 0], .inl 0, []) else none
     else
      bif Nat.ble 29 pc then
       bif Nat.beq pc 29 then some (.iconst 0, 1, [], .inl (0), []) else none
      else
       bif Nat.beq pc 28 then some (.aload_n 0, 1, [], .inl 0, []) else none
    else
     bif Nat.ble 23 pc then
      bif Nat.ble 24 pc then
       bif Nat.ble 25 pc then
        bif Nat.beq pc 25 then some (.putfield 160, 3, [12, 790, 0], .inl 0, []) else none
       else
        bif Nat.beq pc 24 then some (.iadd, 1, [], .inl 0, []) else none
      else
       bif Nat.beq pc 23 then some (.iconst 1, 1, [], .inl (1), []) else none
     else
      bif Nat.ble 20 pc then
       bif Nat.beq pc 20 then some (.getfield 160, 3, [12, 790, 0], .inl 0, []) else none
      else
       bif Nat.beq pc 19 then some (.dup, 1, [], .inl 0, []) else none
   else
    bif Nat.ble 12 pc then
     bif Nat.ble 14 pc then
      bif Nat.ble 17 pc then
       bif Nat.ble 18 pc then
        bif Nat.beq pc 18 then some (.aload_n 0, 1, [], .inl 0, []) else none
       else
        bif Nat.beq pc 17 then some (.istore_n 1, 1, [], .inl 0, []) else none
      else
       bif Nat.beq pc 14 then some (.getfield 189, 3, [12, 791, 0], .inl 0, []) else none
     else
      bif Nat.ble 13 pc then
       bif Nat.beq pc 13 then some (.aload_n 0, 1, [], .inl 0, []) else none
      else
       bif Nat.beq pc 12 then some (.ireturn, 1, [], .inl 0, []) else none
    else
     bif Nat.ble 4 pc then
      bif Nat.ble 7 pc then
       bif Nat.ble 10 pc then
        bif Nat.beq pc 10 then some (.bipush (-3), 2, [], .inl (-3), []) else none
       else
        bif Nat.beq pc 7 then some (.if_icmp .ne 6, 3, [], .inl 0, []) else none
      else
       bif Nat.beq pc 4 then some (.sipush 1000, 3, [], .inl (1000), []) else none
     else
      bif Nat.ble 1 pc then
       bif Nat.beq pc 1 then some (.getfield 160, 3, [12, 790, 0], .inl 0, []) else none
      else
       bif Nat.beq pc 0 then some (.aload_n 0, 1, [], .inl 0, []) else none
def kX12_start (pc : Nat) : Option Ent := bif Nat.ble 92 pc then none else
 bif Nat.ble 47 pc then
  bif Nat.ble 69 pc then
   bif Nat.ble 80 pc then
    bif Nat.ble 86 pc then
     bif Nat.ble 90 pc then
      bif Nat.ble 91 pc then
       bif Nat.beq pc 91 then some (.ireturn, 1, [], .inl 0, []) else none
      else
       bif Nat.beq pc 90 then some (.iconst 0, 1, [], .inl (0), []) else none
     else
      bif Nat.ble 87 pc then
       bif Nat.beq pc 87 then some (.putfield 271, 3, [12, 798, 0], .inl 0, []) else none
      else
       bif Nat.beq pc 86 then some (.iadd, 1, [], .inl 0, []) else none
    else
     bif Nat.ble 82 pc then
      bif Nat.ble 85 pc then
       bif Nat.beq pc 85 then some (.iconst 1, 1, [], .inl (1), []) else none
      else
       bif Nat.beq pc 82 then some (.getfield 271, 3, [12, 798, 0], .inl 0, []) else none
     else
      bif Nat.ble 81 pc then
       bif Nat.beq pc 81 then some (.dup, 1, [], .inl 0, []) else none
      else
       bif Nat.beq pc 80 then some (.aload_n 0, 1, [], .inl 0, []) else none
   else
    bif Nat.ble 74 pc then
     bif Nat.ble 78 pc then
      bif Nat.ble 79 pc then
       bif Nat.beq pc 79 then some (.iastore, 1, [], .inl 0, []) else none
      else
       bif Nat.beq pc 78 then some (.iload_n 1, 1, [], .inl 0, []) else none
     else
      bif Nat.ble 75 pc then
       bif Nat.beq pc 75 then some (.getfield 271, 3, [12, 798, 0], .inl 0, []) else none
      else
       bif Nat.beq pc 74 then some (.aload_n 0, 1, [], .inl 0, []) else none
    else
     bif Nat.ble 70 pc then
      bif Nat.ble 71 pc then
       bif Nat.beq pc 71 then some (.getfield 72, 3, [12, 797, 2], .inl 0, []) else none
      else
       bif Nat.beq pc 70 then some (.aload_n 0, 1, [], .inl 0, []) else none
     else
      bif Nat.beq pc 69 then some (.bastore, 1, [], .inl 0, []) else none
  else
   bif Nat.ble 59 pc then
    bif Nat.ble 63 pc then
     bif Nat.ble 67 pc then
      bif Nat.ble 68 pc then
       bif Nat.beq pc 68 then some (.iconst 1, 1, [], .inl (1), []) else none
      else
       bif Nat.beq pc 67 then some (.iload_n 1, 1, [], .inl 0, []) else none
     else
      bif Nat.ble 64 pc then
       bif Nat.beq pc 64 then some (.getfield 66, 3, [12, 795, 2], .inl 0, []) else none
      else
       bif Nat.beq pc 63 then some (.aload_n 0, 1, [], .inl 0, []) else none
    else
     bif Nat.ble 60 pc then
      bif Nat.ble 62 pc then
       bif Nat.beq pc 62 then some (.ireturn, 1, [], .inl 0, []) else none
      else
       bif Nat.beq pc 60 then some (.bipush 9, 2, [], .inl (9), []) else none
     else
      bif Nat.beq pc 59 then some (.bastore, 1, [], .inl 0, []) else none
   else
    bif Nat.ble 54 pc then
     bif Nat.ble 57 pc then
      bif Nat.ble 58 pc then
       bif Nat.beq pc 58 then some (.iconst 1, 1, [], .inl (1), []) else none
      else
       bif Nat.beq pc 57 then some (.isub, 1, [], .inl 0, []) else none
     else
      bif Nat.ble 55 pc then
       bif Nat.beq pc 55 then some (.bipush 10, 2, [], .inl (10), []) else none
      else
       bif Nat.beq pc 54 then some (.iload_n 1, 1, [], .inl 0, []) else none
    else
     bif Nat.ble 50 pc then
      bif Nat.ble 51 pc then
       bif Nat.beq pc 51 then some (.getfield 69, 3, [12, 796, 2], .inl 0, []) else none
      else
       bif Nat.beq pc 50 then some (.aload_n 0, 1, [], .inl 0, []) else none
     else
      bif Nat.beq pc 47 then some (.ifCond .eq 16, 3, [], .inl 0, []) else none
 else
  bif Nat.ble 24 pc then
   bif Nat.ble 35 pc then
    bif Nat.ble 42 pc then
     bif Nat.ble 45 pc then
      bif Nat.ble 46 pc then
       bif Nat.beq pc 46 then some (.baload, 1, [], .inl 0, []) else none
      else
       bif Nat.beq pc 45 then some (.isub, 1, [], .inl 0, []) else none
     else
      bif Nat.ble 43 pc then
       bif Nat.beq pc 43 then some (.bipush 10, 2, [], .inl (10), []) else none
      else
       bif Nat.beq pc 42 then some (.iload_n 1, 1, [], .inl 0, []) else none
    else
     bif Nat.ble 38 pc then
      bif Nat.ble 39 pc then
       bif Nat.beq pc 39 then some (.getfield 21, 3, [12, 772, 2], .inl 0, []) else none
      else
       bif Nat.beq pc 38 then some (.aload_n 0, 1, [], .inl 0, []) else none
     else
      bif Nat.beq pc 35 then some (.if_icmp .lt 28, 3, [], .inl 0, []) else none
   else
    bif Nat.ble 29 pc then
     bif Nat.ble 32 pc then
      bif Nat.ble 33 pc then
       bif Nat.beq pc 33 then some (.bipush 10, 2, [], .inl (10), []) else none
      else
       bif Nat.beq pc 32 then some (.iload_n 1, 1, [], .inl 0, []) else none
     else
      bif Nat.ble 31 pc then
       bif Nat.beq pc 31 then some (.ireturn, 1, [], .inl 0, []) else none
      else
       bif Nat.beq pc 29 then some (.bipush 10, 2, [], .inl (10), []) else none
    else
     bif Nat.ble 25 pc then
      bif Nat.ble 26 pc then
       bif Nat.beq pc 26 then some (.ifCond .eq 6, 3, [], .inl 0, []) else none
      else
       bif Nat.beq pc 25 then some (.baload, 1, [], .inl 0, []) else none
     else
      bif Nat.beq pc 24 then some (.isub, 1, [], .inl 0, []) else none
  else
   bif Nat.ble 11 pc then
    bif Nat.ble 17 pc then
     bif Nat.ble 21 pc then
      bif Nat.ble 22 pc then
       bif Nat.beq pc 22 then some (.bipush 10, 2, [], .inl (10), []) else none
      else
       bif Nat.beq pc 21 then some (.iload_n 1, 1, [], .inl 0, []) else none
     else
      bif Nat.ble 18 pc then
       bif Nat.beq pc 18 then some (.getfield 69, 3, [12, 796, 2], .inl 0, []) else none
      else
       bif Nat.beq pc 17 then some (.aload_n 0, 1, [], .inl 0, []) else none
    else
     bif Nat.ble 12 pc then
      bif Nat.ble 14 pc then
       bif Nat.beq pc 14 then some (.if_icmp .lt 18, 3, [], .inl 0, []) else none
      else
       bif Nat.beq pc 12 then some (.bipush 10, 2, [], .inl (10), []) else none
     else
      bif Nat.beq pc 11 then some (.iload_n 1, 1, [], .inl 0, []) else none
   else
    bif Nat.ble 5 pc then
     bif Nat.ble 9 pc then
      bif Nat.ble 10 pc then
       bif Nat.beq pc 10 then some (.ireturn, 1, [], .inl 0, []) else none
      else
       bif Nat.beq pc 9 then some (.iconst 0, 1, [], .inl (0), []) else none
     else
      bif Nat.ble 6 pc then
       bif Nat.beq pc 6 then some (.ifCond .eq 5, 3, [], .inl 0, []) else none
      else
       bif Nat.beq pc 5 then some (.baload, 1, [], .inl 0, []) else none
    else
     bif Nat.ble 1 pc then
      bif Nat.ble 4 pc then
       bif Nat.beq pc 4 then some (.iload_n 1, 1, [], .inl 0, []) else none
      else
       bif Nat.beq pc 1 then some (.getfield 66, 3, [12, 795, 2], .inl 0, []) else none
     else
      bif Nat.beq pc 0 then some (.aload_n 0, 1, [], .inl 0, []) else none
def kX12_started (pc : Nat) : Option Ent := bif Nat.ble 27 pc then none else
 bif Nat.ble 10 pc then
  bif Nat.ble 20 pc then
   bif Nat.ble 22 pc then
    bif Nat.ble 25 pc then
     bif Nat.ble 26 pc then
      bif Nat.beq pc 26 then some (.ireturn, 1, [], .inl 0, []) else none
     else
      bif Nat.beq pc 25 then some (.iconst (-1), 1, [], .inl (-1), []) else none
    else
     bif Nat.beq pc 22 then some (.goto 4, 3, [], .inl 0, []) else none
   else
    bif Nat.ble 21 pc then
     bif Nat.beq pc 21 then some (.iaload, 1, [], .inl 0, []) else none
    else
     bif Nat.beq pc 20 then some (.iload_n 1, 1, [], .inl 0, []) else none
  else
   bif Nat.ble 16 pc then
    bif Nat.ble 17 pc then
     bif Nat.beq pc 17 then some (.getfield 72, 3, [12, 797, 2], .inl 0, []) else none
    else
     bif Nat.beq pc 16 then some (.aload_n 0, 1, [], .inl 0, []) else none
   else
    bif Nat.ble 13 pc then
     bif Nat.beq pc 13 then some (.ifCond .eq 12, 3, [], .inl 0, []) else none
    else
     bif Nat.beq pc 10 then some (.invokestatic 169, 3, [157, 3, 1, 6, 100], .inl 0, []) else none
 else
  bif Nat.ble 4 pc then
   bif Nat.ble 8 pc then
    bif Nat.ble 9 pc then
     bif Nat.beq pc 9 then some (.i2l, 1, [], .inl 0, []) else none
    else
     bif Nat.beq pc 8 then some (.isub, 1, [], .inl 0, []) else none
   else
    bif Nat.ble 7 pc then
     bif Nat.beq pc 7 then some (.iconst 1, 1, [], .inl (1), []) else none
    else
     bif Nat.beq pc 4 then some (.getfield 271, 3, [12, 798, 0], .inl 0, []) else none
  else
   bif Nat.ble 2 pc then
    bif Nat.ble 3 pc then
     bif Nat.beq pc 3 then some (.aload_n 0, 1, [], .inl 0, []) else none
    else
     bif Nat.beq pc 2 then some (.lconst 0, 1, [], .inr (.inl (0)), []) else none
   else
    bif Nat.ble 1 pc then
     bif Nat.beq pc 1 then some (.i2l, 1, [], .inl 0, []) else none
    else
     bif Nat.beq pc 0 then some (.iload_n 1, 1, [], .inl 0, []) else none
def kX12_newRow (pc : Nat) : Option Ent := bif Nat.ble 69 pc then none else
 bif Nat.ble 34 pc then
  bif Nat.ble 52 pc then
   bif Nat.ble 59 pc then
    bif Nat.ble 66 pc then
     bif Nat.ble 67 pc then
      bif Nat.ble 68 pc then
       bif Nat.beq pc 68 then some (.ireturn, 1, [], .inl 0, []) else none
      else
       bif Nat.beq pc 67 then some (.isub, 1, [], .inl 0, []) else none
     else
      bif Nat.beq pc 66 then some (.iconst 1, 1, [], .inl (1), []) else none
    else
     bif Nat.ble 62 pc then
      bif Nat.ble 63 pc then
       bif Nat.beq pc 63 then some (.getfield 265, 3, [12, 793, 0], .inl 0, []) else none
      else
       bif Nat.beq pc 62 then some (.aload_n 0, 1, [], .inl 0, []) else none
     else
      bif Nat.beq pc 59 then some (.putfield 265, 3, [12, 793, 0], .inl 0, []) else none
   else
    bif Nat.ble 54 pc then
     bif Nat.ble 57 pc then
      bif Nat.ble 58 pc then
       bif Nat.beq pc 58 then some (.iadd, 1, [], .inl 0, []) else none
      else
       bif Nat.beq pc 57 then some (.iconst 1, 1, [], .inl (1), []) else none
     else
      bif Nat.beq pc 54 then some (.getfield 265, 3, [12, 793, 0], .inl 0, []) else none
    else
     bif Nat.ble 53 pc then
      bif Nat.beq pc 53 then some (.dup, 1, [], .inl 0, []) else none
     else
      bif Nat.beq pc 52 then some (.aload_n 0, 1, [], .inl 0, []) else none
  else
   bif Nat.ble 41 pc then
    bif Nat.ble 45 pc then
     bif Nat.ble 46 pc then
      bif Nat.ble 49 pc then
       bif Nat.beq pc 49 then some (.goto (-27), 3, [], .inl 0, []) else none
      else
       bif Nat.beq pc 46 then some (.iinc 3 1, 3, [], .inl (1), []) else none
     else
      bif Nat.beq pc 45 then some (.lastore, 1, [], .inl 0, []) else none
    else
     bif Nat.ble 42 pc then
      bif Nat.beq pc 42 then some (.invokestatic 242, 3, [177, 2, 2, 3, 100], .inl 0, []) else none
     else
      bif Nat.beq pc 41 then some (.lconst 0, 1, [], .inr (.inl (0)), []) else none
   else
    bif Nat.ble 38 pc then
     bif Nat.ble 39 pc then
      bif Nat.ble 40 pc then
       bif Nat.beq pc 40 then some (.iload_n 1, 1, [], .inl 0, []) else none
      else
       bif Nat.beq pc 39 then some (.iadd, 1, [], .inl 0, []) else none
     else
      bif Nat.beq pc 38 then some (.iload_n 3, 1, [], .inl 0, []) else none
    else
     bif Nat.ble 37 pc then
      bif Nat.beq pc 37 then some (.imul, 1, [], .inl 0, []) else none
     else
      bif Nat.beq pc 34 then some (.getfield 265, 3, [12, 793, 0], .inl 0, []) else none
 else
  bif Nat.ble 18 pc then
   bif Nat.ble 23 pc then
    bif Nat.ble 28 pc then
     bif Nat.ble 31 pc then
      bif Nat.ble 33 pc then
       bif Nat.beq pc 33 then some (.aload_n 0, 1, [], .inl 0, []) else none
      else
       bif Nat.beq pc 31 then some (.bipush 16, 2, [], .inl (16), []) else none
     else
      bif Nat.beq pc 28 then some (.getfield 81, 3, [12, 801, 2], .inl 0, []) else none
    else
     bif Nat.ble 24 pc then
      bif Nat.ble 27 pc then
       bif Nat.beq pc 27 then some (.aload_n 0, 1, [], .inl 0, []) else none
      else
       bif Nat.beq pc 24 then some (.if_icmp .ge 28, 3, [], .inl 0, []) else none
     else
      bif Nat.beq pc 23 then some (.iload_n 2, 1, [], .inl 0, []) else none
   else
    bif Nat.ble 20 pc then
     bif Nat.ble 21 pc then
      bif Nat.ble 22 pc then
       bif Nat.beq pc 22 then some (.iload_n 3, 1, [], .inl 0, []) else none
      else
       bif Nat.beq pc 21 then some (.istore_n 3, 1, [], .inl 0, []) else none
     else
      bif Nat.beq pc 20 then some (.iconst 0, 1, [], .inl (0), []) else none
    else
     bif Nat.ble 19 pc then
      bif Nat.beq pc 19 then some (.iastore, 1, [], .inl 0, []) else none
     else
      bif Nat.beq pc 18 then some (.iload_n 2, 1, [], .inl 0, []) else none
  else
   bif Nat.ble 9 pc then
    bif Nat.ble 11 pc then
     bif Nat.ble 14 pc then
      bif Nat.ble 15 pc then
       bif Nat.beq pc 15 then some (.getfield 265, 3, [12, 793, 0], .inl 0, []) else none
      else
       bif Nat.beq pc 14 then some (.aload_n 0, 1, [], .inl 0, []) else none
     else
      bif Nat.beq pc 11 then some (.getfield 78, 3, [12, 800, 2], .inl 0, []) else none
    else
     bif Nat.ble 10 pc then
      bif Nat.beq pc 10 then some (.aload_n 0, 1, [], .inl 0, []) else none
     else
      bif Nat.beq pc 9 then some (.iastore, 1, [], .inl 0, []) else none
   else
    bif Nat.ble 4 pc then
     bif Nat.ble 5 pc then
      bif Nat.ble 8 pc then
       bif Nat.beq pc 8 then some (.iload_n 1, 1, [], .inl 0, []) else none
      else
       bif Nat.beq pc 5 then some (.getfield 265, 3, [12, 793, 0], .inl 0, []) else none
     else
      bif Nat.beq pc 4 then some (.aload_n 0, 1, [], .inl 0, []) else none
    else
     bif Nat.ble 1 pc then
      bif Nat.beq pc 1 then some (.getfield 75, 3, [12, 799, 2], .inl 0, []) else none
     else
      bif Nat.beq pc 0 then some (.aload_n 0, 1, [], .inl 0, []) else none
def kX12_row (pc : Nat) : Option Ent := bif Nat.ble 56 pc then none else
 bif Nat.ble 31 pc then
  bif Nat.ble 44 pc then
   bif Nat.ble 50 pc then
    bif Nat.ble 52 pc then
     bif Nat.ble 55 pc then
      bif Nat.beq pc 55 then some (.ireturn, 1, [], .inl 0, []) else none
     else
      bif Nat.beq pc 52 then some (.invokevirtual 274, 3, [189, 3, 1, 4, 12], .inl 0, []) else none
    else
     bif Nat.ble 51 pc then
      bif Nat.beq pc 51 then some (.iload_n 2, 1, [], .inl 0, []) else none
     else
      bif Nat.beq pc 50 then some (.iload_n 1, 1, [], .inl 0, []) else none
   else
    bif Nat.ble 46 pc then
     bif Nat.ble 49 pc then
      bif Nat.beq pc 49 then some (.aload_n 0, 1, [], .inl 0, []) else none
     else
      bif Nat.beq pc 46 then some (.putfield 268, 3, [12, 794, 0], .inl 0, []) else none
    else
     bif Nat.ble 45 pc then
      bif Nat.beq pc 45 then some (.iadd, 1, [], .inl 0, []) else none
     else
      bif Nat.beq pc 44 then some (.iconst 1, 1, [], .inl (1), []) else none
  else
   bif Nat.ble 38 pc then
    bif Nat.ble 40 pc then
     bif Nat.ble 41 pc then
      bif Nat.beq pc 41 then some (.getfield 268, 3, [12, 794, 0], .inl 0, []) else none
     else
      bif Nat.beq pc 40 then some (.dup, 1, [], .inl 0, []) else none
    else
     bif Nat.ble 39 pc then
      bif Nat.beq pc 39 then some (.aload_n 0, 1, [], .inl 0, []) else none
     else
      bif Nat.beq pc 38 then some (.ireturn, 1, [], .inl 0, []) else none
   else
    bif Nat.ble 33 pc then
     bif Nat.ble 36 pc then
      bif Nat.beq pc 36 then some (.bipush (-14), 2, [], .inl (-14), []) else none
     else
      bif Nat.beq pc 33 then some (.ifCond .ge 6, 3, [], .inl 0, []) else none
    else
     bif Nat.ble 32 pc then
      bif Nat.beq pc 32 then some (.iload_n 2, 1, [], .inl 0, []) else none
     else
      bif Nat.beq pc 31 then some (.ireturn, 1, [], .inl 0, []) else none
 else
  bif Nat.ble 15 pc then
   bif Nat.ble 21 pc then
    bif Nat.ble 26 pc then
     bif Nat.ble 29 pc then
      bif Nat.beq pc 29 then some (.bipush (-3), 2, [], .inl (-3), []) else none
     else
      bif Nat.beq pc 26 then some (.if_icmp .ne 6, 3, [], .inl 0, []) else none
    else
     bif Nat.ble 24 pc then
      bif Nat.beq pc 24 then some (.bipush 40, 2, [], .inl (40), []) else none
     else
      bif Nat.beq pc 21 then some (.getfield 268, 3, [12, 794, 0], .inl 0, []) else none
   else
    bif Nat.ble 19 pc then
     bif Nat.ble 20 pc then
      bif Nat.beq pc 20 then some (.aload_n 0, 1, [], .inl 0, []) else none
     else
      bif Nat.beq pc 19 then some (.ireturn, 1, [], .inl 0, []) else none
    else
     bif Nat.ble 18 pc then
      bif Nat.beq pc 18 then some (.iconst (-1), 1, [], .inl (-1), []) else none
     else
      bif Nat.beq pc 15 then some (.if_icmp .le 5, 3, [], .inl 0, []) else none
  else
   bif Nat.ble 6 pc then
    bif Nat.ble 12 pc then
     bif Nat.ble 13 pc then
      bif Nat.beq pc 13 then some (.bipush 16, 2, [], .inl (16), []) else none
     else
      bif Nat.beq pc 12 then some (.iload_n 2, 1, [], .inl 0, []) else none
    else
     bif Nat.ble 9 pc then
      bif Nat.beq pc 9 then some (.ifCond .eq 9, 3, [], .inl 0, []) else none
     else
      bif Nat.beq pc 6 then some (.invokestatic 169, 3, [157, 3, 1, 6, 100], .inl 0, []) else none
   else
    bif Nat.ble 2 pc then
     bif Nat.ble 3 pc then
      bif Nat.beq pc 3 then some (.ldc2_w 220, 3, [], .inr (.inl (7)), []) else none
     else
      bif Nat.beq pc 2 then some (.lconst 0, 1, [], .inr (.inl (0)), []) else none
    else
     bif Nat.ble 1 pc then
      bif Nat.beq pc 1 then some (.i2l, 1, [], .inl 0, []) else none
     else
      bif Nat.beq pc 0 then some (.iload_n 1, 1, [], .inl 0, []) else none
def kX12_isRow (pc : Nat) : Option Ent := bif Nat.ble 14 pc then none else
 bif Nat.ble 7 pc then
  bif Nat.ble 9 pc then
   bif Nat.ble 10 pc then
    bif Nat.ble 13 pc then
     bif Nat.beq pc 13 then some (.ireturn, 1, [1], .inl 0, []) else none
    else
     bif Nat.beq pc 10 then some (.invokestatic 169, 3, [157, 3, 1, 6, 100], .inl 0, []) else none
   else
    bif Nat.beq pc 9 then some (.i2l, 1, [], .inl 0, []) else none
  else
   bif Nat.ble 8 pc then
    bif Nat.beq pc 8 then some (.isub, 1, [], .inl 0, []) else none
   else
    bif Nat.beq pc 7 then some (.iconst 1, 1, [], .inl (1), []) else none
 else
  bif Nat.ble 2 pc then
   bif Nat.ble 3 pc then
    bif Nat.ble 4 pc then
     bif Nat.beq pc 4 then some (.getfield 265, 3, [12, 793, 0], .inl 0, []) else none
    else
     bif Nat.beq pc 3 then some (.aload_n 0, 1, [], .inl 0, []) else none
   else
    bif Nat.beq pc 2 then some (.lconst 0, 1, [], .inr (.inl (0)), []) else none
  else
   bif Nat.ble 1 pc then
    bif Nat.beq pc 1 then some (.i2l, 1, [], .inl 0, []) else none
   else
    bif Nat.beq pc 0 then some (.iload_n 1, 1, [], .inl 0, []) else none
def kX12_put (pc : Nat) : Option Ent := bif Nat.ble 54 pc then none else
 bif Nat.ble 28 pc then
  bif Nat.ble 41 pc then
   bif Nat.ble 47 pc then
    bif Nat.ble 51 pc then
     bif Nat.ble 52 pc then
      bif Nat.ble 53 pc then
       bif Nat.beq pc 53 then some (.ireturn, 1, [], .inl 0, []) else none
      else
       bif Nat.beq pc 52 then some (.iconst 1, 1, [], .inl (1), []) else none
     else
      bif Nat.beq pc 51 then some (.lastore, 1, [], .inl 0, []) else none
    else
     bif Nat.ble 48 pc then
      bif Nat.beq pc 48 then some (.invokestatic 242, 3, [177, 2, 2, 3, 100], .inl 0, []) else none
     else
      bif Nat.beq pc 47 then some (.lload_n 3, 1, [], .inl 0, []) else none
   else
    bif Nat.ble 45 pc then
     bif Nat.ble 46 pc then
      bif Nat.beq pc 46 then some (.iaload, 1, [], .inl 0, []) else none
     else
      bif Nat.beq pc 45 then some (.iload_n 1, 1, [], .inl 0, []) else none
    else
     bif Nat.ble 42 pc then
      bif Nat.beq pc 42 then some (.getfield 75, 3, [12, 799, 2], .inl 0, []) else none
     else
      bif Nat.beq pc 41 then some (.aload_n 0, 1, [], .inl 0, []) else none
  else
   bif Nat.ble 35 pc then
    bif Nat.ble 38 pc then
     bif Nat.ble 39 pc then
      bif Nat.ble 40 pc then
       bif Nat.beq pc 40 then some (.iadd, 1, [], .inl 0, []) else none
      else
       bif Nat.beq pc 39 then some (.iload_n 2, 1, [], .inl 0, []) else none
     else
      bif Nat.beq pc 38 then some (.imul, 1, [], .inl 0, []) else none
    else
     bif Nat.ble 37 pc then
      bif Nat.beq pc 37 then some (.iload_n 1, 1, [], .inl 0, []) else none
     else
      bif Nat.beq pc 35 then some (.bipush 16, 2, [], .inl (16), []) else none
   else
    bif Nat.ble 31 pc then
     bif Nat.ble 32 pc then
      bif Nat.beq pc 32 then some (.getfield 81, 3, [12, 801, 2], .inl 0, []) else none
     else
      bif Nat.beq pc 31 then some (.aload_n 0, 1, [], .inl 0, []) else none
    else
     bif Nat.ble 30 pc then
      bif Nat.beq pc 30 then some (.ireturn, 1, [], .inl 0, []) else none
     else
      bif Nat.beq pc 28 then some (.bipush (-15), 2, [], .inl (-15), []) else none
 else
  bif Nat.ble 13 pc then
   bif Nat.ble 19 pc then
    bif Nat.ble 21 pc then
     bif Nat.ble 22 pc then
      bif Nat.ble 25 pc then
       bif Nat.beq pc 25 then some (.ifCond .ne 6, 3, [], .inl 0, []) else none
      else
       bif Nat.beq pc 22 then some (.invokestatic 169, 3, [157, 3, 1, 6, 100], .inl 0, []) else none
     else
      bif Nat.beq pc 21 then some (.i2l, 1, [], .inl 0, []) else none
    else
     bif Nat.ble 20 pc then
      bif Nat.beq pc 20 then some (.isub, 1, [], .inl 0, []) else none
     else
      bif Nat.beq pc 19 then some (.iconst 1, 1, [], .inl (1), []) else none
   else
    bif Nat.ble 17 pc then
     bif Nat.ble 18 pc then
      bif Nat.beq pc 18 then some (.iaload, 1, [], .inl 0, []) else none
     else
      bif Nat.beq pc 17 then some (.iload_n 1, 1, [], .inl 0, []) else none
    else
     bif Nat.ble 14 pc then
      bif Nat.beq pc 14 then some (.getfield 78, 3, [12, 800, 2], .inl 0, []) else none
     else
      bif Nat.beq pc 13 then some (.aload_n 0, 1, [], .inl 0, []) else none
  else
   bif Nat.ble 8 pc then
    bif Nat.ble 10 pc then
     bif Nat.ble 11 pc then
      bif Nat.ble 12 pc then
       bif Nat.beq pc 12 then some (.lconst 0, 1, [], .inr (.inl (0)), []) else none
      else
       bif Nat.beq pc 11 then some (.i2l, 1, [], .inl 0, []) else none
     else
      bif Nat.beq pc 10 then some (.iload_n 2, 1, [], .inl 0, []) else none
    else
     bif Nat.ble 9 pc then
      bif Nat.beq pc 9 then some (.ireturn, 1, [], .inl 0, []) else none
     else
      bif Nat.beq pc 8 then some (.iconst (-1), 1, [], .inl (-1), []) else none
   else
    bif Nat.ble 2 pc then
     bif Nat.ble 5 pc then
      bif Nat.beq pc 5 then some (.ifCond .ne 5, 3, [], .inl 0, []) else none
     else
      bif Nat.beq pc 2 then some (.invokevirtual 278, 3, [191, 2, 1, 2, 12], .inl 0, []) else none
    else
     bif Nat.ble 1 pc then
      bif Nat.beq pc 1 then some (.iload_n 1, 1, [], .inl 0, []) else none
     else
      bif Nat.beq pc 0 then some (.aload_n 0, 1, [], .inl 0, []) else none
def kX12_item (pc : Nat) : Option Ent := bif Nat.ble 42 pc then none else
 bif Nat.ble 19 pc then
  bif Nat.ble 33 pc then
   bif Nat.ble 36 pc then
    bif Nat.ble 40 pc then
     bif Nat.ble 41 pc then
      bif Nat.beq pc 41 then some (.lreturn, 1, [], .inl 0, []) else none
     else
      bif Nat.beq pc 40 then some (.lconst 0, 1, [], .inr (.inl (0)), []) else none
    else
     bif Nat.ble 37 pc then
      bif Nat.beq pc 37 then some (.goto 4, 3, [], .inl 0, []) else none
     else
      bif Nat.beq pc 36 then some (.laload, 1, [], .inl 0, []) else none
   else
    bif Nat.ble 34 pc then
     bif Nat.ble 35 pc then
      bif Nat.beq pc 35 then some (.iadd, 1, [], .inl 0, []) else none
     else
      bif Nat.beq pc 34 then some (.iload_n 2, 1, [], .inl 0, []) else none
    else
     bif Nat.beq pc 33 then some (.imul, 1, [], .inl 0, []) else none
  else
   bif Nat.ble 26 pc then
    bif Nat.ble 30 pc then
     bif Nat.ble 32 pc then
      bif Nat.beq pc 32 then some (.iload_n 1, 1, [], .inl 0, []) else none
     else
      bif Nat.beq pc 30 then some (.bipush 16, 2, [], .inl (16), []) else none
    else
     bif Nat.ble 27 pc then
      bif Nat.beq pc 27 then some (.getfield 81, 3, [12, 801, 2], .inl 0, []) else none
     else
      bif Nat.beq pc 26 then some (.aload_n 0, 1, [], .inl 0, []) else none
   else
    bif Nat.ble 20 pc then
     bif Nat.ble 23 pc then
      bif Nat.beq pc 23 then some (.ifCond .eq 17, 3, [], .inl 0, []) else none
     else
      bif Nat.beq pc 20 then some (.invokestatic 169, 3, [157, 3, 1, 6, 100], .inl 0, []) else none
    else
     bif Nat.beq pc 19 then some (.i2l, 1, [], .inl 0, []) else none
 else
  bif Nat.ble 10 pc then
   bif Nat.ble 15 pc then
    bif Nat.ble 17 pc then
     bif Nat.ble 18 pc then
      bif Nat.beq pc 18 then some (.isub, 1, [], .inl 0, []) else none
     else
      bif Nat.beq pc 17 then some (.iconst 1, 1, [], .inl (1), []) else none
    else
     bif Nat.ble 16 pc then
      bif Nat.beq pc 16 then some (.iaload, 1, [], .inl 0, []) else none
     else
      bif Nat.beq pc 15 then some (.iload_n 1, 1, [], .inl 0, []) else none
   else
    bif Nat.ble 11 pc then
     bif Nat.ble 12 pc then
      bif Nat.beq pc 12 then some (.getfield 78, 3, [12, 800, 2], .inl 0, []) else none
     else
      bif Nat.beq pc 11 then some (.aload_n 0, 1, [], .inl 0, []) else none
    else
     bif Nat.beq pc 10 then some (.lconst 0, 1, [], .inr (.inl (0)), []) else none
  else
   bif Nat.ble 5 pc then
    bif Nat.ble 8 pc then
     bif Nat.ble 9 pc then
      bif Nat.beq pc 9 then some (.i2l, 1, [], .inl 0, []) else none
     else
      bif Nat.beq pc 8 then some (.iload_n 2, 1, [], .inl 0, []) else none
    else
     bif Nat.beq pc 5 then some (.ifCond .eq 35, 3, [], .inl 0, []) else none
   else
    bif Nat.ble 1 pc then
     bif Nat.ble 2 pc then
      bif Nat.beq pc 2 then some (.invokevirtual 278, 3, [191, 2, 1, 2, 12], .inl 0, []) else none
     else
      bif Nat.beq pc 1 then some (.iload_n 1, 1, [], .inl 0, []) else none
    else
     bif Nat.beq pc 0 then some (.aload_n 0, 1, [], .inl 0, []) else none
def kX12_size (pc : Nat) : Option Ent := bif Nat.ble 19 pc then none else
 bif Nat.ble 9 pc then
  bif Nat.ble 14 pc then
   bif Nat.ble 17 pc then
    bif Nat.ble 18 pc then
     bif Nat.beq pc 18 then some (.ireturn, 1, [], .inl 0, []) else none
    else
     bif Nat.beq pc 17 then some (.iconst (-1), 1, [], .inl (-1), []) else none
   else
    bif Nat.beq pc 14 then some (.goto 4, 3, [], .inl 0, []) else none
  else
   bif Nat.ble 12 pc then
    bif Nat.ble 13 pc then
     bif Nat.beq pc 13 then some (.iaload, 1, [], .inl 0, []) else none
    else
     bif Nat.beq pc 12 then some (.iload_n 1, 1, [], .inl 0, []) else none
   else
    bif Nat.beq pc 9 then some (.getfield 78, 3, [12, 800, 2], .inl 0, []) else none
 else
  bif Nat.ble 2 pc then
   bif Nat.ble 5 pc then
    bif Nat.ble 8 pc then
     bif Nat.beq pc 8 then some (.aload_n 0, 1, [], .inl 0, []) else none
    else
     bif Nat.beq pc 5 then some (.ifCond .eq 12, 3, [], .inl 0, []) else none
   else
    bif Nat.beq pc 2 then some (.invokevirtual 278, 3, [191, 2, 1, 2, 12], .inl 0, []) else none
  else
   bif Nat.ble 1 pc then
    bif Nat.beq pc 1 then some (.iload_n 1, 1, [], .inl 0, []) else none
   else
    bif Nat.beq pc 0 then some (.aload_n 0, 1, [], .inl 0, []) else none
def kX12_give (pc : Nat) : Option Ent := bif Nat.ble 23 pc then none else
 bif Nat.ble 13 pc then
  bif Nat.ble 19 pc then
   bif Nat.ble 21 pc then
    bif Nat.ble 22 pc then
     bif Nat.beq pc 22 then some (.ireturn, 1, [], .inl 0, []) else none
    else
     bif Nat.beq pc 21 then some (.iconst 1, 1, [], .inl (1), []) else none
   else
    bif Nat.ble 20 pc then
     bif Nat.beq pc 20 then some (.lastore, 1, [], .inl 0, []) else none
    else
     bif Nat.beq pc 19 then some (.lload_n 2, 1, [], .inl 0, []) else none
  else
   bif Nat.ble 15 pc then
    bif Nat.ble 18 pc then
     bif Nat.beq pc 18 then some (.iload_n 1, 1, [], .inl 0, []) else none
    else
     bif Nat.beq pc 15 then some (.getfield 93, 3, [12, 805, 2], .inl 0, []) else none
   else
    bif Nat.ble 14 pc then
     bif Nat.beq pc 14 then some (.aload_n 0, 1, [], .inl 0, []) else none
    else
     bif Nat.beq pc 13 then some (.ireturn, 1, [], .inl 0, []) else none
 else
  bif Nat.ble 3 pc then
   bif Nat.ble 9 pc then
    bif Nat.ble 12 pc then
     bif Nat.beq pc 12 then some (.iconst (-1), 1, [], .inl (-1), []) else none
    else
     bif Nat.beq pc 9 then some (.ifCond .ne 5, 3, [], .inl 0, []) else none
   else
    bif Nat.ble 6 pc then
     bif Nat.beq pc 6 then some (.invokestatic 169, 3, [157, 3, 1, 6, 100], .inl 0, []) else none
    else
     bif Nat.beq pc 3 then some (.ldc2_w 255, 3, [], .inr (.inl (5)), []) else none
  else
   bif Nat.ble 1 pc then
    bif Nat.ble 2 pc then
     bif Nat.beq pc 2 then some (.lconst 0, 1, [], .inr (.inl (0)), []) else none
    else
     bif Nat.beq pc 1 then some (.i2l, 1, [], .inl 0, []) else none
   else
    bif Nat.beq pc 0 then some (.iload_n 1, 1, [], .inl 0, []) else none
def kX12_isObject (pc : Nat) : Option Ent := bif Nat.ble 13 pc then none else
 bif Nat.ble 6 pc then
  bif Nat.ble 8 pc then
   bif Nat.ble 9 pc then
    bif Nat.ble 12 pc then
     bif Nat.beq pc 12 then some (.ireturn, 1, [1], .inl 0, []) else none
    else
     bif Nat.beq pc 9 then some (.invokestatic 169, 3, [157, 3, 1, 6, 100], .inl 0, []) else none
   else
    bif Nat.beq pc 8 then some (.i2l, 1, [], .inl 0, []) else none
  else
   bif Nat.ble 7 pc then
    bif Nat.beq pc 7 then some (.isub, 1, [], .inl 0, []) else none
   else
    bif Nat.beq pc 6 then some (.iconst 1, 1, [], .inl (1), []) else none
 else
  bif Nat.ble 2 pc then
   bif Nat.ble 3 pc then
    bif Nat.beq pc 3 then some (.getfield 189, 3, [12, 791, 0], .inl 0, []) else none
   else
    bif Nat.beq pc 2 then some (.aload_n 0, 1, [], .inl 0, []) else none
  else
   bif Nat.ble 1 pc then
    bif Nat.beq pc 1 then some (.lconst 0, 1, [], .inr (.inl (0)), []) else none
   else
    bif Nat.beq pc 0 then some (.lload_n 1, 1, [], .inl 0, []) else none
def kX12_isGood (pc : Nat) : Option Ent := bif Nat.ble 168 pc then none else
 bif Nat.ble 94 pc then
  bif Nat.ble 132 pc then
   bif Nat.ble 149 pc then
    bif Nat.ble 160 pc then
     bif Nat.ble 165 pc then
      bif Nat.ble 166 pc then
       bif Nat.ble 167 pc then
        bif Nat.beq pc 167 then some (.ireturn, 1, [1], .inl 0, []) else none
       else
        bif Nat.beq pc 166 then some (.iconst 1, 1, [], .inl (1), []) else none
      else
       bif Nat.beq pc 165 then some (.ireturn, 1, [1], .inl 0, []) else none
     else
      bif Nat.ble 161 pc then
       bif Nat.ble 164 pc then
        bif Nat.beq pc 164 then some (.iconst 0, 1, [], .inl (0), []) else none
       else
        bif Nat.beq pc 161 then some (.goto 4, 3, [], .inl 0, []) else none
      else
       bif Nat.beq pc 160 then some (.iconst 1, 1, [], .inl (1), []) else none
    else
     bif Nat.ble 153 pc then
      bif Nat.ble 154 pc then
       bif Nat.ble 157 pc then
        bif Nat.beq pc 157 then some (.ifCond .eq 7, 3, [], .inl 0, []) else none
       else
        bif Nat.beq pc 154 then some (.invokevirtual 284, 3, [174, 3, 1, 3, 12], .inl 0, []) else none
      else
       bif Nat.beq pc 153 then some (.iaload, 1, [], .inl 0, []) else none
     else
      bif Nat.ble 152 pc then
       bif Nat.beq pc 152 then some (.iload_n 1, 1, [], .inl 0, []) else none
      else
       bif Nat.beq pc 149 then some (.getfield 33, 3, [12, 777, 2], .inl 0, []) else none
   else
    bif Nat.ble 141 pc then
     bif Nat.ble 146 pc then
      bif Nat.ble 147 pc then
       bif Nat.ble 148 pc then
        bif Nat.beq pc 148 then some (.aload_n 0, 1, [], .inl 0, []) else none
       else
        bif Nat.beq pc 147 then some (.iaload, 1, [], .inl 0, []) else none
      else
       bif Nat.beq pc 146 then some (.l2i, 1, [], .inl 0, []) else none
     else
      bif Nat.ble 142 pc then
       bif Nat.ble 145 pc then
        bif Nat.beq pc 145 then some (.lload_n 2, 1, [], .inl 0, []) else none
       else
        bif Nat.beq pc 142 then some (.getfield 84, 3, [12, 802, 2], .inl 0, []) else none
      else
       bif Nat.beq pc 141 then some (.aload_n 0, 1, [], .inl 0, []) else none
    else
     bif Nat.ble 134 pc then
      bif Nat.ble 137 pc then
       bif Nat.ble 140 pc then
        bif Nat.beq pc 140 then some (.aload_n 0, 1, [], .inl 0, []) else none
       else
        bif Nat.beq pc 137 then some (.ifCond .eq 27, 3, [], .inl 0, []) else none
      else
       bif Nat.beq pc 134 then some (.invokevirtual 281, 3, [196, 2, 1, 3, 12], .inl 0, []) else none
     else
      bif Nat.ble 133 pc then
       bif Nat.beq pc 133 then some (.lload_n 2, 1, [], .inl 0, []) else none
      else
       bif Nat.beq pc 132 then some (.aload_n 0, 1, [], .inl 0, []) else none
  else
   bif Nat.ble 113 pc then
    bif Nat.ble 122 pc then
     bif Nat.ble 125 pc then
      bif Nat.ble 128 pc then
       bif Nat.ble 129 pc then
        bif Nat.beq pc 129 then some (.ifCond .eq 31, 3, [], .inl 0, []) else none
       else
        bif Nat.beq pc 128 then some (.lcmp, 1, [], .inl 0, []) else none
      else
       bif Nat.beq pc 125 then some (.ldc2_w 246, 3, [], .inr (.inl (-1)), []) else none
     else
      bif Nat.ble 123 pc then
       bif Nat.ble 124 pc then
        bif Nat.beq pc 124 then some (.lload_n 2, 1, [], .inl 0, []) else none
       else
        bif Nat.beq pc 123 then some (.ireturn, 1, [1], .inl 0, []) else none
      else
       bif Nat.beq pc 122 then some (.iconst 0, 1, [], .inl (0), []) else none
    else
     bif Nat.ble 115 pc then
      bif Nat.ble 118 pc then
       bif Nat.ble 119 pc then
        bif Nat.beq pc 119 then some (.goto 4, 3, [], .inl 0, []) else none
       else
        bif Nat.beq pc 118 then some (.iconst 1, 1, [], .inl (1), []) else none
      else
       bif Nat.beq pc 115 then some (.if_icmp .ne 7, 3, [], .inl 0, []) else none
     else
      bif Nat.ble 114 pc then
       bif Nat.beq pc 114 then some (.iaload, 1, [], .inl 0, []) else none
      else
       bif Nat.beq pc 113 then some (.iload_n 1, 1, [], .inl 0, []) else none
   else
    bif Nat.ble 103 pc then
     bif Nat.ble 108 pc then
      bif Nat.ble 109 pc then
       bif Nat.ble 110 pc then
        bif Nat.beq pc 110 then some (.getfield 33, 3, [12, 777, 2], .inl 0, []) else none
       else
        bif Nat.beq pc 109 then some (.aload_n 0, 1, [], .inl 0, []) else none
      else
       bif Nat.beq pc 108 then some (.iaload, 1, [], .inl 0, []) else none
     else
      bif Nat.ble 106 pc then
       bif Nat.ble 107 pc then
        bif Nat.beq pc 107 then some (.l2i, 1, [], .inl 0, []) else none
       else
        bif Nat.beq pc 106 then some (.lload_n 2, 1, [], .inl 0, []) else none
      else
       bif Nat.beq pc 103 then some (.getfield 75, 3, [12, 799, 2], .inl 0, []) else none
    else
     bif Nat.ble 96 pc then
      bif Nat.ble 99 pc then
       bif Nat.ble 102 pc then
        bif Nat.beq pc 102 then some (.aload_n 0, 1, [], .inl 0, []) else none
       else
        bif Nat.beq pc 99 then some (.ifCond .eq 23, 3, [], .inl 0, []) else none
      else
       bif Nat.beq pc 96 then some (.invokestatic 169, 3, [157, 3, 1, 6, 100], .inl 0, []) else none
     else
      bif Nat.ble 95 pc then
       bif Nat.beq pc 95 then some (.i2l, 1, [], .inl 0, []) else none
      else
       bif Nat.beq pc 94 then some (.isub, 1, [], .inl 0, []) else none
 else
  bif Nat.ble 60 pc then
   bif Nat.ble 75 pc then
    bif Nat.ble 84 pc then
     bif Nat.ble 89 pc then
      bif Nat.ble 90 pc then
       bif Nat.ble 93 pc then
        bif Nat.beq pc 93 then some (.iconst 1, 1, [], .inl (1), []) else none
       else
        bif Nat.beq pc 90 then some (.getfield 265, 3, [12, 793, 0], .inl 0, []) else none
      else
       bif Nat.beq pc 89 then some (.aload_n 0, 1, [], .inl 0, []) else none
     else
      bif Nat.ble 87 pc then
       bif Nat.ble 88 pc then
        bif Nat.beq pc 88 then some (.lconst 0, 1, [], .inr (.inl (0)), []) else none
       else
        bif Nat.beq pc 87 then some (.lload_n 2, 1, [], .inl 0, []) else none
      else
       bif Nat.beq pc 84 then some (.ifCond .eq 34, 3, [], .inl 0, []) else none
    else
     bif Nat.ble 79 pc then
      bif Nat.ble 80 pc then
       bif Nat.ble 83 pc then
        bif Nat.beq pc 83 then some (.lcmp, 1, [], .inl 0, []) else none
       else
        bif Nat.beq pc 80 then some (.ldc2_w 246, 3, [], .inr (.inl (-1)), []) else none
      else
       bif Nat.beq pc 79 then some (.lload_n 2, 1, [], .inl 0, []) else none
     else
      bif Nat.ble 78 pc then
       bif Nat.beq pc 78 then some (.ireturn, 1, [1], .inl 0, []) else none
      else
       bif Nat.beq pc 75 then some (.invokestatic 169, 3, [157, 3, 1, 6, 100], .inl 0, []) else none
   else
    bif Nat.ble 69 pc then
     bif Nat.ble 72 pc then
      bif Nat.ble 73 pc then
       bif Nat.ble 74 pc then
        bif Nat.beq pc 74 then some (.lsub, 1, [], .inl 0, []) else none
       else
        bif Nat.beq pc 73 then some (.lconst 1, 1, [], .inr (.inl (1)), []) else none
      else
       bif Nat.beq pc 72 then some (.lshl, 1, [], .inl 0, []) else none
     else
      bif Nat.ble 70 pc then
       bif Nat.ble 71 pc then
        bif Nat.beq pc 71 then some (.iaload, 1, [], .inl 0, []) else none
       else
        bif Nat.beq pc 70 then some (.iaload, 1, [], .inl 0, []) else none
      else
       bif Nat.beq pc 69 then some (.iload_n 1, 1, [], .inl 0, []) else none
    else
     bif Nat.ble 62 pc then
      bif Nat.ble 65 pc then
       bif Nat.ble 66 pc then
        bif Nat.beq pc 66 then some (.getfield 33, 3, [12, 777, 2], .inl 0, []) else none
       else
        bif Nat.beq pc 65 then some (.aload_n 0, 1, [], .inl 0, []) else none
      else
       bif Nat.beq pc 62 then some (.getfield 7, 3, [12, 769, 2], .inl 0, []) else none
     else
      bif Nat.ble 61 pc then
       bif Nat.beq pc 61 then some (.aload_n 0, 1, [], .inl 0, []) else none
      else
       bif Nat.beq pc 60 then some (.lconst 1, 1, [], .inr (.inl (1)), []) else none
  else
   bif Nat.ble 45 pc then
    bif Nat.ble 52 pc then
     bif Nat.ble 57 pc then
      bif Nat.ble 58 pc then
       bif Nat.ble 59 pc then
        bif Nat.beq pc 59 then some (.lconst 0, 1, [], .inr (.inl (0)), []) else none
       else
        bif Nat.beq pc 58 then some (.lload_n 2, 1, [], .inl 0, []) else none
      else
       bif Nat.beq pc 57 then some (.ireturn, 1, [1], .inl 0, []) else none
     else
      bif Nat.ble 53 pc then
       bif Nat.ble 54 pc then
        bif Nat.beq pc 54 then some (.invokestatic 169, 3, [157, 3, 1, 6, 100], .inl 0, []) else none
       else
        bif Nat.beq pc 53 then some (.i2l, 1, [], .inl 0, []) else none
      else
       bif Nat.beq pc 52 then some (.isub, 1, [], .inl 0, []) else none
    else
     bif Nat.ble 49 pc then
      bif Nat.ble 50 pc then
       bif Nat.ble 51 pc then
        bif Nat.beq pc 51 then some (.iconst 1, 1, [], .inl (1), []) else none
       else
        bif Nat.beq pc 50 then some (.iaload, 1, [], .inl 0, []) else none
      else
       bif Nat.beq pc 49 then some (.iaload, 1, [], .inl 0, []) else none
     else
      bif Nat.ble 48 pc then
       bif Nat.beq pc 48 then some (.iload_n 1, 1, [], .inl 0, []) else none
      else
       bif Nat.beq pc 45 then some (.getfield 33, 3, [12, 777, 2], .inl 0, []) else none
   else
    bif Nat.ble 36 pc then
     bif Nat.ble 40 pc then
      bif Nat.ble 41 pc then
       bif Nat.ble 44 pc then
        bif Nat.beq pc 44 then some (.aload_n 0, 1, [], .inl 0, []) else none
       else
        bif Nat.beq pc 41 then some (.getfield 7, 3, [12, 769, 2], .inl 0, []) else none
      else
       bif Nat.beq pc 40 then some (.aload_n 0, 1, [], .inl 0, []) else none
     else
      bif Nat.ble 37 pc then
       bif Nat.beq pc 37 then some (.ldc2_w 246, 3, [], .inr (.inl (-1)), []) else none
      else
       bif Nat.beq pc 36 then some (.lload_n 2, 1, [], .inl 0, []) else none
    else
     bif Nat.ble 4 pc then
      bif Nat.ble 5 pc then
       bif Nat.ble 6 pc then
        bif Nat.beq pc 6 then some (.tableswitch 160 8 11 #[30, 52, 73, 118], 30, [], .inl 0, []) else none
       else
        bif Nat.beq pc 5 then some (.iaload, 1, [], .inl 0, []) else none
      else
       bif Nat.beq pc 4 then some (.iload_n 1, 1, [], .inl 0, []) else none
     else
      bif Nat.ble 1 pc then
       bif Nat.beq pc 1 then some (.getfield 30, 3, [12, 776, 2], .inl 0, []) else none
      else
       bif Nat.beq pc 0 then some (.aload_n 0, 1, [], .inl 0, []) else none
def kX12_caused (pc : Nat) : Option Ent := bif Nat.ble 32 pc then none else
 bif Nat.ble 15 pc then
  bif Nat.ble 24 pc then
   bif Nat.ble 29 pc then
    bif Nat.ble 30 pc then
     bif Nat.ble 31 pc then
      bif Nat.beq pc 31 then some (.ireturn, 1, [], .inl 0, []) else none
     else
      bif Nat.beq pc 30 then some (.isub, 1, [], .inl 0, []) else none
    else
     bif Nat.beq pc 29 then some (.iload_n 1, 1, [], .inl 0, []) else none
   else
    bif Nat.ble 27 pc then
     bif Nat.beq pc 27 then some (.bipush (-10), 2, [], .inl (-10), []) else none
    else
     bif Nat.beq pc 24 then some (.putfield 109, 3, [12, 811, 0], .inl 0, []) else none
  else
   bif Nat.ble 18 pc then
    bif Nat.ble 21 pc then
     bif Nat.ble 22 pc then
      bif Nat.beq pc 22 then some (.iload 5, 2, [], .inl 0, []) else none
     else
      bif Nat.beq pc 21 then some (.aload_n 0, 1, [], .inl 0, []) else none
    else
     bif Nat.beq pc 18 then some (.putfield 106, 3, [12, 810, 0], .inl 0, []) else none
   else
    bif Nat.ble 16 pc then
     bif Nat.beq pc 16 then some (.iload 4, 2, [], .inl 0, []) else none
    else
     bif Nat.beq pc 15 then some (.aload_n 0, 1, [], .inl 0, []) else none
 else
  bif Nat.ble 6 pc then
   bif Nat.ble 10 pc then
    bif Nat.ble 11 pc then
     bif Nat.ble 12 pc then
      bif Nat.beq pc 12 then some (.putfield 103, 3, [12, 809, 0], .inl 0, []) else none
     else
      bif Nat.beq pc 11 then some (.iload_n 3, 1, [], .inl 0, []) else none
    else
     bif Nat.beq pc 10 then some (.aload_n 0, 1, [], .inl 0, []) else none
   else
    bif Nat.ble 7 pc then
     bif Nat.beq pc 7 then some (.putfield 99, 3, [12, 808, 0], .inl 0, []) else none
    else
     bif Nat.beq pc 6 then some (.iload_n 2, 1, [], .inl 0, []) else none
  else
   bif Nat.ble 2 pc then
    bif Nat.ble 5 pc then
     bif Nat.beq pc 5 then some (.aload_n 0, 1, [], .inl 0, []) else none
    else
     bif Nat.beq pc 2 then some (.putfield 287, 3, [12, 807, 0], .inl 0, []) else none
   else
    bif Nat.ble 1 pc then
     bif Nat.beq pc 1 then some (.iload_n 1, 1, [], .inl 0, []) else none
    else
     bif Nat.beq pc 0 then some (.aload_n 0, 1, [], .inl 0, []) else none
def kX12_made (pc : Nat) : Option Ent := bif Nat.ble 282 pc then none else
 bif Nat.ble 143 pc then
  bif Nat.ble 211 pc then
   bif Nat.ble 247 pc then
    bif Nat.ble 266 pc then
     bif Nat.ble 275 pc then
      bif Nat.ble 279 pc then
       bif Nat.ble 280 pc then
        bif Nat.ble 281 pc then
         bif Nat.beq pc 281 then some (.ireturn, 1, [], .inl 0, []) else none
        else
         bif Nat.beq pc 280 then some (.isub, 1, [], .inl 0, []) else none
       else
        bif Nat.beq pc 279 then some (.iconst 1, 1, [], .inl (1), []) else none
      else
       bif Nat.ble 276 pc then
        bif Nat.beq pc 276 then some (.getfield 189, 3, [12, 791, 0], .inl 0, []) else none
       else
        bif Nat.beq pc 275 then some (.aload_n 0, 1, [], .inl 0, []) else none
     else
      bif Nat.ble 270 pc then
       bif Nat.ble 271 pc then
        bif Nat.ble 272 pc then
         bif Nat.beq pc 272 then some (.putfield 189, 3, [12, 791, 0], .inl 0, []) else none
        else
         bif Nat.beq pc 271 then some (.iadd, 1, [], .inl 0, []) else none
       else
        bif Nat.beq pc 270 then some (.iconst 1, 1, [], .inl (1), []) else none
      else
       bif Nat.ble 267 pc then
        bif Nat.beq pc 267 then some (.getfield 189, 3, [12, 791, 0], .inl 0, []) else none
       else
        bif Nat.beq pc 266 then some (.dup, 1, [], .inl 0, []) else none
    else
     bif Nat.ble 257 pc then
      bif Nat.ble 259 pc then
       bif Nat.ble 262 pc then
        bif Nat.ble 265 pc then
         bif Nat.beq pc 265 then some (.aload_n 0, 1, [], .inl 0, []) else none
        else
         bif Nat.beq pc 262 then some (.goto (-47), 3, [], .inl 0, []) else none
       else
        bif Nat.beq pc 259 then some (.iinc 4 1, 3, [], .inl (1), []) else none
      else
       bif Nat.ble 258 pc then
        bif Nat.beq pc 258 then some (.lastore, 1, [], .inl 0, []) else none
       else
        bif Nat.beq pc 257 then some (.lconst 0, 1, [], .inr (.inl (0)), []) else none
     else
      bif Nat.ble 251 pc then
       bif Nat.ble 253 pc then
        bif Nat.ble 254 pc then
         bif Nat.beq pc 254 then some (.goto 4, 3, [], .inl 0, []) else none
        else
         bif Nat.beq pc 253 then some (.laload, 1, [], .inl 0, []) else none
       else
        bif Nat.beq pc 251 then some (.iload 4, 2, [], .inl 0, []) else none
      else
       bif Nat.ble 248 pc then
        bif Nat.beq pc 248 then some (.getfield 96, 3, [12, 806, 2], .inl 0, []) else none
       else
        bif Nat.beq pc 247 then some (.aload_n 0, 1, [], .inl 0, []) else none
   else
    bif Nat.ble 229 pc then
     bif Nat.ble 238 pc then
      bif Nat.ble 242 pc then
       bif Nat.ble 243 pc then
        bif Nat.ble 244 pc then
         bif Nat.beq pc 244 then some (.if_icmp .ge 13, 3, [], .inl 0, []) else none
        else
         bif Nat.beq pc 243 then some (.iaload, 1, [], .inl 0, []) else none
       else
        bif Nat.beq pc 242 then some (.iload_n 1, 1, [], .inl 0, []) else none
      else
       bif Nat.ble 239 pc then
        bif Nat.beq pc 239 then some (.getfield 24, 3, [12, 774, 2], .inl 0, []) else none
       else
        bif Nat.beq pc 238 then some (.aload_n 0, 1, [], .inl 0, []) else none
     else
      bif Nat.ble 233 pc then
       bif Nat.ble 235 pc then
        bif Nat.ble 236 pc then
         bif Nat.beq pc 236 then some (.iload 4, 2, [], .inl 0, []) else none
        else
         bif Nat.beq pc 235 then some (.iadd, 1, [], .inl 0, []) else none
       else
        bif Nat.beq pc 233 then some (.iload 4, 2, [], .inl 0, []) else none
      else
       bif Nat.ble 232 pc then
        bif Nat.beq pc 232 then some (.imul, 1, [], .inl 0, []) else none
       else
        bif Nat.beq pc 229 then some (.getfield 189, 3, [12, 791, 0], .inl 0, []) else none
    else
     bif Nat.ble 219 pc then
      bif Nat.ble 223 pc then
       bif Nat.ble 226 pc then
        bif Nat.ble 228 pc then
         bif Nat.beq pc 228 then some (.aload_n 0, 1, [], .inl 0, []) else none
        else
         bif Nat.beq pc 226 then some (.bipush 6, 2, [], .inl (6), []) else none
       else
        bif Nat.beq pc 223 then some (.getfield 87, 3, [12, 803, 2], .inl 0, []) else none
      else
       bif Nat.ble 222 pc then
        bif Nat.beq pc 222 then some (.aload_n 0, 1, [], .inl 0, []) else none
       else
        bif Nat.beq pc 219 then some (.if_icmp .ge 46, 3, [], .inl 0, []) else none
     else
      bif Nat.ble 213 pc then
       bif Nat.ble 215 pc then
        bif Nat.ble 217 pc then
         bif Nat.beq pc 217 then some (.bipush 6, 2, [], .inl (6), []) else none
        else
         bif Nat.beq pc 215 then some (.iload 4, 2, [], .inl 0, [2, 3, 5, 6, 7]) else none
       else
        bif Nat.beq pc 213 then some (.istore 4, 2, [], .inl 0, []) else none
      else
       bif Nat.ble 212 pc then
        bif Nat.beq pc 212 then some (.iconst 0, 1, [], .inl (0), []) else none
       else
        bif Nat.beq pc 211 then some (.iastore, 1, [], .inl 0, []) else none
  else
   bif Nat.ble 175 pc then
    bif Nat.ble 193 pc then
     bif Nat.ble 202 pc then
      bif Nat.ble 206 pc then
       bif Nat.ble 207 pc then
        bif Nat.ble 210 pc then
         bif Nat.beq pc 210 then some (.iconst (-1), 1, [], .inl (-1), []) else none
        else
         bif Nat.beq pc 207 then some (.getfield 189, 3, [12, 791, 0], .inl 0, []) else none
       else
        bif Nat.beq pc 206 then some (.aload_n 0, 1, [], .inl 0, []) else none
      else
       bif Nat.ble 203 pc then
        bif Nat.beq pc 203 then some (.getfield 90, 3, [12, 804, 2], .inl 0, []) else none
       else
        bif Nat.beq pc 202 then some (.aload_n 0, 1, [], .inl 0, []) else none
     else
      bif Nat.ble 197 pc then
       bif Nat.ble 200 pc then
        bif Nat.ble 201 pc then
         bif Nat.beq pc 201 then some (.iastore, 1, [], .inl 0, []) else none
        else
         bif Nat.beq pc 200 then some (.iload_n 1, 1, [], .inl 0, []) else none
       else
        bif Nat.beq pc 197 then some (.getfield 189, 3, [12, 791, 0], .inl 0, []) else none
      else
       bif Nat.ble 196 pc then
        bif Nat.beq pc 196 then some (.aload_n 0, 1, [], .inl 0, []) else none
       else
        bif Nat.beq pc 193 then some (.getfield 84, 3, [12, 802, 2], .inl 0, []) else none
    else
     bif Nat.ble 182 pc then
      bif Nat.ble 186 pc then
       bif Nat.ble 189 pc then
        bif Nat.ble 192 pc then
         bif Nat.beq pc 192 then some (.aload_n 0, 1, [], .inl 0, []) else none
        else
         bif Nat.beq pc 189 then some (.goto (-54), 3, [], .inl 0, []) else none
       else
        bif Nat.beq pc 186 then some (.iinc 4 1, 3, [], .inl (1), []) else none
      else
       bif Nat.ble 185 pc then
        bif Nat.beq pc 185 then some (.ireturn, 1, [], .inl 0, []) else none
       else
        bif Nat.beq pc 182 then some (.invokevirtual 293, 3, [198, 6, 1, 6, 12], .inl 0, []) else none
     else
      bif Nat.ble 178 pc then
       bif Nat.ble 179 pc then
        bif Nat.ble 181 pc then
         bif Nat.beq pc 181 then some (.iload_n 2, 1, [], .inl 0, []) else none
        else
         bif Nat.beq pc 179 then some (.iload 4, 2, [], .inl 0, []) else none
       else
        bif Nat.beq pc 178 then some (.iaload, 1, [], .inl 0, []) else none
      else
       bif Nat.ble 177 pc then
        bif Nat.beq pc 177 then some (.iadd, 1, [], .inl 0, []) else none
       else
        bif Nat.beq pc 175 then some (.iload 4, 2, [], .inl 0, []) else none
   else
    bif Nat.ble 159 pc then
     bif Nat.ble 168 pc then
      bif Nat.ble 172 pc then
       bif Nat.ble 173 pc then
        bif Nat.ble 174 pc then
         bif Nat.beq pc 174 then some (.imul, 1, [], .inl 0, []) else none
        else
         bif Nat.beq pc 173 then some (.iload_n 1, 1, [], .inl 0, []) else none
       else
        bif Nat.beq pc 172 then some (.iconst 4, 1, [], .inl (4), []) else none
      else
       bif Nat.ble 169 pc then
        bif Nat.beq pc 169 then some (.getfield 42, 3, [12, 780, 2], .inl 0, []) else none
       else
        bif Nat.beq pc 168 then some (.aload_n 0, 1, [], .inl 0, []) else none
     else
      bif Nat.ble 164 pc then
       bif Nat.ble 165 pc then
        bif Nat.ble 167 pc then
         bif Nat.beq pc 167 then some (.iload_n 1, 1, [], .inl 0, []) else none
        else
         bif Nat.beq pc 165 then some (.iload 5, 2, [], .inl 0, []) else none
       else
        bif Nat.beq pc 164 then some (.aload_n 0, 1, [], .inl 0, []) else none
      else
       bif Nat.ble 161 pc then
        bif Nat.beq pc 161 then some (.ifCond .eq 25, 3, [], .inl 0, []) else none
       else
        bif Nat.beq pc 159 then some (.iload 5, 2, [], .inl 0, []) else none
    else
     bif Nat.ble 150 pc then
      bif Nat.ble 153 pc then
       bif Nat.ble 154 pc then
        bif Nat.ble 157 pc then
         bif Nat.beq pc 157 then some (.istore 5, 2, [], .inl 0, []) else none
        else
         bif Nat.beq pc 154 then some (.invokevirtual 297, 3, [200, 3, 1, 9, 12], .inl 0, []) else none
       else
        bif Nat.beq pc 153 then some (.iadd, 1, [], .inl 0, []) else none
      else
       bif Nat.ble 151 pc then
        bif Nat.beq pc 151 then some (.iload 4, 2, [], .inl 0, []) else none
       else
        bif Nat.beq pc 150 then some (.imul, 1, [], .inl 0, []) else none
     else
      bif Nat.ble 147 pc then
       bif Nat.ble 148 pc then
        bif Nat.ble 149 pc then
         bif Nat.beq pc 149 then some (.iload_n 1, 1, [], .inl 0, []) else none
        else
         bif Nat.beq pc 148 then some (.iconst 4, 1, [], .inl (4), []) else none
       else
        bif Nat.beq pc 147 then some (.iload_n 1, 1, [], .inl 0, []) else none
      else
       bif Nat.ble 146 pc then
        bif Nat.beq pc 146 then some (.aload_n 0, 1, [], .inl 0, []) else none
       else
        bif Nat.beq pc 143 then some (.if_icmp .ge 49, 3, [], .inl 0, []) else none
 else
  bif Nat.ble 71 pc then
   bif Nat.ble 107 pc then
    bif Nat.ble 125 pc then
     bif Nat.ble 135 pc then
      bif Nat.ble 138 pc then
       bif Nat.ble 141 pc then
        bif Nat.ble 142 pc then
         bif Nat.beq pc 142 then some (.iaload, 1, [], .inl 0, []) else none
        else
         bif Nat.beq pc 141 then some (.iload_n 1, 1, [], .inl 0, []) else none
       else
        bif Nat.beq pc 138 then some (.getfield 39, 3, [12, 779, 2], .inl 0, []) else none
      else
       bif Nat.ble 137 pc then
        bif Nat.beq pc 137 then some (.aload_n 0, 1, [], .inl 0, []) else none
       else
        bif Nat.beq pc 135 then some (.iload 4, 2, [], .inl 0, [3, 5, 6, 7]) else none
     else
      bif Nat.ble 129 pc then
       bif Nat.ble 132 pc then
        bif Nat.ble 133 pc then
         bif Nat.beq pc 133 then some (.istore 4, 2, [], .inl 0, []) else none
        else
         bif Nat.beq pc 132 then some (.iconst 0, 1, [], .inl (0), []) else none
       else
        bif Nat.beq pc 129 then some (.goto (-120), 3, [], .inl 0, []) else none
      else
       bif Nat.ble 126 pc then
        bif Nat.beq pc 126 then some (.iinc 4 1, 3, [], .inl (1), []) else none
       else
        bif Nat.beq pc 125 then some (.ireturn, 1, [], .inl 0, []) else none
    else
     bif Nat.ble 117 pc then
      bif Nat.ble 120 pc then
       bif Nat.ble 121 pc then
        bif Nat.ble 122 pc then
         bif Nat.beq pc 122 then some (.invokevirtual 293, 3, [198, 6, 1, 6, 12], .inl 0, []) else none
        else
         bif Nat.beq pc 121 then some (.iload_n 2, 1, [], .inl 0, []) else none
       else
        bif Nat.beq pc 120 then some (.iconst (-1), 1, [], .inl (-1), []) else none
      else
       bif Nat.ble 118 pc then
        bif Nat.beq pc 118 then some (.iload 4, 2, [], .inl 0, []) else none
       else
        bif Nat.beq pc 117 then some (.iload_n 1, 1, [], .inl 0, []) else none
     else
      bif Nat.ble 111 pc then
       bif Nat.ble 114 pc then
        bif Nat.ble 115 pc then
         bif Nat.beq pc 115 then some (.iload 7, 2, [], .inl 0, []) else none
        else
         bif Nat.beq pc 114 then some (.aload_n 0, 1, [], .inl 0, []) else none
       else
        bif Nat.beq pc 111 then some (.ifCond .eq 15, 3, [], .inl 0, []) else none
      else
       bif Nat.ble 109 pc then
        bif Nat.beq pc 109 then some (.iload 7, 2, [], .inl 0, []) else none
       else
        bif Nat.beq pc 107 then some (.istore 7, 2, [], .inl 0, []) else none
   else
    bif Nat.ble 89 pc then
     bif Nat.ble 98 pc then
      bif Nat.ble 100 pc then
       bif Nat.ble 103 pc then
        bif Nat.ble 106 pc then
         bif Nat.beq pc 106 then some (.iconst 0, 1, [], .inl (0), []) else none
        else
         bif Nat.beq pc 103 then some (.goto 4, 3, [], .inl 0, []) else none
       else
        bif Nat.beq pc 100 then some (.invokevirtual 290, 3, [187, 2, 1, 2, 12], .inl 0, []) else none
      else
       bif Nat.ble 99 pc then
        bif Nat.beq pc 99 then some (.iadd, 1, [], .inl 0, []) else none
       else
        bif Nat.beq pc 98 then some (.iaload, 1, [], .inl 0, []) else none
     else
      bif Nat.ble 92 pc then
       bif Nat.ble 93 pc then
        bif Nat.ble 96 pc then
         bif Nat.beq pc 96 then some (.iload 5, 2, [], .inl 0, []) else none
        else
         bif Nat.beq pc 93 then some (.getfield 33, 3, [12, 777, 2], .inl 0, []) else none
       else
        bif Nat.beq pc 92 then some (.aload_n 0, 1, [], .inl 0, []) else none
      else
       bif Nat.ble 90 pc then
        bif Nat.beq pc 90 then some (.bipush 10, 2, [], .inl (10), []) else none
       else
        bif Nat.beq pc 89 then some (.aload_n 0, 1, [], .inl 0, []) else none
    else
     bif Nat.ble 78 pc then
      bif Nat.ble 82 pc then
       bif Nat.ble 84 pc then
        bif Nat.ble 86 pc then
         bif Nat.beq pc 86 then some (.ifCond .eq 20, 3, [], .inl 0, []) else none
        else
         bif Nat.beq pc 84 then some (.iload 6, 2, [], .inl 0, []) else none
       else
        bif Nat.beq pc 82 then some (.istore 6, 2, [], .inl 0, []) else none
      else
       bif Nat.ble 81 pc then
        bif Nat.beq pc 81 then some (.iconst 0, 1, [], .inl (0), []) else none
       else
        bif Nat.beq pc 78 then some (.goto 4, 3, [], .inl 0, []) else none
     else
      bif Nat.ble 73 pc then
       bif Nat.ble 74 pc then
        bif Nat.ble 77 pc then
         bif Nat.beq pc 77 then some (.iconst 1, 1, [], .inl (1), []) else none
        else
         bif Nat.beq pc 74 then some (.ifCond .eq 7, 3, [], .inl 0, []) else none
       else
        bif Nat.beq pc 73 then some (.lcmp, 1, [], .inl 0, []) else none
      else
       bif Nat.ble 72 pc then
        bif Nat.beq pc 72 then some (.lconst 0, 1, [], .inr (.inl (0)), []) else none
       else
        bif Nat.beq pc 71 then some (.laload, 1, [], .inl 0, []) else none
  else
   bif Nat.ble 33 pc then
    bif Nat.ble 50 pc then
     bif Nat.ble 60 pc then
      bif Nat.ble 65 pc then
       bif Nat.ble 66 pc then
        bif Nat.ble 69 pc then
         bif Nat.beq pc 69 then some (.iload 4, 2, [], .inl 0, []) else none
        else
         bif Nat.beq pc 66 then some (.getfield 96, 3, [12, 806, 2], .inl 0, []) else none
       else
        bif Nat.beq pc 65 then some (.aload_n 0, 1, [], .inl 0, []) else none
      else
       bif Nat.ble 62 pc then
        bif Nat.beq pc 62 then some (.if_icmp .ne 19, 3, [], .inl 0, []) else none
       else
        bif Nat.beq pc 60 then some (.bipush 9, 2, [], .inl (9), []) else none
     else
      bif Nat.ble 54 pc then
       bif Nat.ble 57 pc then
        bif Nat.ble 59 pc then
         bif Nat.beq pc 59 then some (.iaload, 1, [], .inl 0, []) else none
        else
         bif Nat.beq pc 57 then some (.iload 5, 2, [], .inl 0, []) else none
       else
        bif Nat.beq pc 54 then some (.getfield 30, 3, [12, 776, 2], .inl 0, []) else none
      else
       bif Nat.ble 53 pc then
        bif Nat.beq pc 53 then some (.aload_n 0, 1, [], .inl 0, []) else none
       else
        bif Nat.beq pc 50 then some (.ifCond .ge 27, 3, [], .inl 0, []) else none
    else
     bif Nat.ble 42 pc then
      bif Nat.ble 47 pc then
       bif Nat.ble 48 pc then
        bif Nat.ble 49 pc then
         bif Nat.beq pc 49 then some (.lcmp, 1, [], .inl 0, []) else none
        else
         bif Nat.beq pc 48 then some (.lconst 0, 1, [], .inr (.inl (0)), []) else none
       else
        bif Nat.beq pc 47 then some (.laload, 1, [], .inl 0, []) else none
      else
       bif Nat.ble 45 pc then
        bif Nat.beq pc 45 then some (.iload 4, 2, [], .inl 0, []) else none
       else
        bif Nat.beq pc 42 then some (.getfield 96, 3, [12, 806, 2], .inl 0, []) else none
     else
      bif Nat.ble 36 pc then
       bif Nat.ble 38 pc then
        bif Nat.ble 41 pc then
         bif Nat.beq pc 41 then some (.aload_n 0, 1, [], .inl 0, []) else none
        else
         bif Nat.beq pc 38 then some (.if_icmp .ne 15, 3, [], .inl 0, []) else none
       else
        bif Nat.beq pc 36 then some (.bipush 8, 2, [], .inl (8), []) else none
      else
       bif Nat.ble 35 pc then
        bif Nat.beq pc 35 then some (.iaload, 1, [], .inl 0, []) else none
       else
        bif Nat.beq pc 33 then some (.iload 5, 2, [], .inl 0, []) else none
   else
    bif Nat.ble 16 pc then
     bif Nat.ble 24 pc then
      bif Nat.ble 27 pc then
       bif Nat.ble 29 pc then
        bif Nat.ble 30 pc then
         bif Nat.beq pc 30 then some (.getfield 30, 3, [12, 776, 2], .inl 0, []) else none
        else
         bif Nat.beq pc 29 then some (.aload_n 0, 1, [], .inl 0, []) else none
       else
        bif Nat.beq pc 27 then some (.istore 5, 2, [], .inl 0, []) else none
      else
       bif Nat.ble 26 pc then
        bif Nat.beq pc 26 then some (.iadd, 1, [], .inl 0, []) else none
       else
        bif Nat.beq pc 24 then some (.iload 4, 2, [], .inl 0, []) else none
     else
      bif Nat.ble 20 pc then
       bif Nat.ble 22 pc then
        bif Nat.ble 23 pc then
         bif Nat.beq pc 23 then some (.imul, 1, [], .inl 0, []) else none
        else
         bif Nat.beq pc 22 then some (.iload_n 1, 1, [], .inl 0, []) else none
       else
        bif Nat.beq pc 20 then some (.bipush 6, 2, [], .inl (6), []) else none
      else
       bif Nat.ble 17 pc then
        bif Nat.beq pc 17 then some (.if_icmp .ge 115, 3, [], .inl 0, []) else none
       else
        bif Nat.beq pc 16 then some (.iaload, 1, [], .inl 0, []) else none
    else
     bif Nat.ble 7 pc then
      bif Nat.ble 11 pc then
       bif Nat.ble 12 pc then
        bif Nat.ble 15 pc then
         bif Nat.beq pc 15 then some (.iload_n 1, 1, [], .inl 0, []) else none
        else
         bif Nat.beq pc 12 then some (.getfield 24, 3, [12, 774, 2], .inl 0, []) else none
       else
        bif Nat.beq pc 11 then some (.aload_n 0, 1, [], .inl 0, []) else none
      else
       bif Nat.ble 9 pc then
        bif Nat.beq pc 9 then some (.iload 4, 2, [], .inl 0, [3, 5, 6, 7]) else none
       else
        bif Nat.beq pc 7 then some (.istore 4, 2, [], .inl 0, []) else none
     else
      bif Nat.ble 2 pc then
       bif Nat.ble 5 pc then
        bif Nat.ble 6 pc then
         bif Nat.beq pc 6 then some (.iconst 0, 1, [], .inl (0), []) else none
        else
         bif Nat.beq pc 5 then some (.istore_n 3, 1, [], .inl 0, []) else none
       else
        bif Nat.beq pc 2 then some (.invokevirtual 290, 3, [187, 2, 1, 2, 12], .inl 0, []) else none
      else
       bif Nat.ble 1 pc then
        bif Nat.beq pc 1 then some (.iload_n 1, 1, [], .inl 0, []) else none
       else
        bif Nat.beq pc 0 then some (.aload_n 0, 1, [], .inl 0, []) else none
def kX12_checked (pc : Nat) : Option Ent := bif Nat.ble 258 pc then none else
 bif Nat.ble 144 pc then
  bif Nat.ble 202 pc then
   bif Nat.ble 230 pc then
    bif Nat.ble 245 pc then
     bif Nat.ble 251 pc then
      bif Nat.ble 256 pc then
       bif Nat.ble 257 pc then
        bif Nat.beq pc 257 then some (.ireturn, 1, [], .inl 0, []) else none
       else
        bif Nat.beq pc 256 then some (.iconst 0, 1, [], .inl (0), []) else none
      else
       bif Nat.ble 253 pc then
        bif Nat.beq pc 253 then some (.goto 4, 3, [], .inl 0, []) else none
       else
        bif Nat.beq pc 251 then some (.bipush 7, 2, [], .inl (7), []) else none
     else
      bif Nat.ble 247 pc then
       bif Nat.ble 248 pc then
        bif Nat.beq pc 248 then some (.ifCond .ne 8, 3, [], .inl 0, []) else none
       else
        bif Nat.beq pc 247 then some (.baload, 1, [], .inl 0, []) else none
      else
       bif Nat.ble 246 pc then
        bif Nat.beq pc 246 then some (.iadd, 1, [], .inl 0, []) else none
       else
        bif Nat.beq pc 245 then some (.l2i, 1, [], .inl 0, []) else none
    else
     bif Nat.ble 239 pc then
      bif Nat.ble 242 pc then
       bif Nat.ble 243 pc then
        bif Nat.beq pc 243 then some (.lload 5, 2, [], .inl 0, []) else none
       else
        bif Nat.beq pc 242 then some (.imul, 1, [], .inl 0, []) else none
      else
       bif Nat.ble 241 pc then
        bif Nat.beq pc 241 then some (.iaload, 1, [], .inl 0, []) else none
       else
        bif Nat.beq pc 239 then some (.iload 4, 2, [], .inl 0, []) else none
     else
      bif Nat.ble 235 pc then
       bif Nat.ble 236 pc then
        bif Nat.beq pc 236 then some (.getfield 33, 3, [12, 777, 2], .inl 0, []) else none
       else
        bif Nat.beq pc 235 then some (.aload_n 0, 1, [], .inl 0, []) else none
      else
       bif Nat.ble 233 pc then
        bif Nat.beq pc 233 then some (.bipush 8, 2, [], .inl (8), []) else none
       else
        bif Nat.beq pc 230 then some (.getfield 17, 3, [12, 771, 2], .inl 0, []) else none
   else
    bif Nat.ble 215 pc then
     bif Nat.ble 222 pc then
      bif Nat.ble 226 pc then
       bif Nat.ble 229 pc then
        bif Nat.beq pc 229 then some (.aload_n 0, 1, [], .inl 0, []) else none
       else
        bif Nat.beq pc 226 then some (.ifCond .eq 30, 3, [], .inl 0, []) else none
      else
       bif Nat.ble 225 pc then
        bif Nat.beq pc 225 then some (.lcmp, 1, [], .inl 0, []) else none
       else
        bif Nat.beq pc 222 then some (.ldc2_w 246, 3, [], .inr (.inl (-1)), []) else none
     else
      bif Nat.ble 219 pc then
       bif Nat.ble 220 pc then
        bif Nat.beq pc 220 then some (.lload 5, 2, [], .inl 0, []) else none
       else
        bif Nat.beq pc 219 then some (.ireturn, 1, [], .inl 0, []) else none
      else
       bif Nat.ble 218 pc then
        bif Nat.beq pc 218 then some (.iconst 0, 1, [], .inl (0), []) else none
       else
        bif Nat.beq pc 215 then some (.goto 4, 3, [], .inl 0, []) else none
    else
     bif Nat.ble 207 pc then
      bif Nat.ble 210 pc then
       bif Nat.ble 213 pc then
        bif Nat.beq pc 213 then some (.bipush 6, 2, [], .inl (6), []) else none
       else
        bif Nat.beq pc 210 then some (.ifCond .eq 8, 3, [], .inl 0, []) else none
      else
       bif Nat.ble 209 pc then
        bif Nat.beq pc 209 then some (.lcmp, 1, [], .inl 0, []) else none
       else
        bif Nat.beq pc 207 then some (.lload 7, 2, [], .inl 0, []) else none
     else
      bif Nat.ble 205 pc then
       bif Nat.ble 206 pc then
        bif Nat.beq pc 206 then some (.i2l, 1, [], .inl 0, []) else none
       else
        bif Nat.beq pc 205 then some (.iaload, 1, [], .inl 0, []) else none
      else
       bif Nat.ble 204 pc then
        bif Nat.beq pc 204 then some (.l2i, 1, [], .inl 0, []) else none
       else
        bif Nat.beq pc 202 then some (.lload 5, 2, [], .inl 0, []) else none
  else
   bif Nat.ble 173 pc then
    bif Nat.ble 187 pc then
     bif Nat.ble 194 pc then
      bif Nat.ble 198 pc then
       bif Nat.ble 199 pc then
        bif Nat.beq pc 199 then some (.getfield 84, 3, [12, 802, 2], .inl 0, []) else none
       else
        bif Nat.beq pc 198 then some (.aload_n 0, 1, [], .inl 0, []) else none
      else
       bif Nat.ble 195 pc then
        bif Nat.beq pc 195 then some (.ifCond .eq 23, 3, [], .inl 0, []) else none
       else
        bif Nat.beq pc 194 then some (.lcmp, 1, [], .inl 0, []) else none
     else
      bif Nat.ble 189 pc then
       bif Nat.ble 191 pc then
        bif Nat.beq pc 191 then some (.ldc2_w 246, 3, [], .inr (.inl (-1)), []) else none
       else
        bif Nat.beq pc 189 then some (.lload 5, 2, [], .inl 0, []) else none
      else
       bif Nat.ble 188 pc then
        bif Nat.beq pc 188 then some (.ireturn, 1, [], .inl 0, []) else none
       else
        bif Nat.beq pc 187 then some (.iconst 5, 1, [], .inl (5), []) else none
    else
     bif Nat.ble 177 pc then
      bif Nat.ble 183 pc then
       bif Nat.ble 184 pc then
        bif Nat.beq pc 184 then some (.goto 4, 3, [], .inl 0, []) else none
       else
        bif Nat.beq pc 183 then some (.iconst 0, 1, [], .inl (0), []) else none
      else
       bif Nat.ble 180 pc then
        bif Nat.beq pc 180 then some (.ifCond .eq 7, 3, [], .inl 0, []) else none
       else
        bif Nat.beq pc 177 then some (.invokestatic 169, 3, [157, 3, 1, 6, 100], .inl 0, []) else none
     else
      bif Nat.ble 175 pc then
       bif Nat.ble 176 pc then
        bif Nat.beq pc 176 then some (.i2l, 1, [], .inl 0, []) else none
       else
        bif Nat.beq pc 175 then some (.isub, 1, [], .inl 0, []) else none
      else
       bif Nat.ble 174 pc then
        bif Nat.beq pc 174 then some (.iconst 1, 1, [], .inl (1), []) else none
       else
        bif Nat.beq pc 173 then some (.iaload, 1, [], .inl 0, []) else none
   else
    bif Nat.ble 159 pc then
     bif Nat.ble 166 pc then
      bif Nat.ble 170 pc then
       bif Nat.ble 172 pc then
        bif Nat.beq pc 172 then some (.l2i, 1, [], .inl 0, []) else none
       else
        bif Nat.beq pc 170 then some (.lload 5, 2, [], .inl 0, []) else none
      else
       bif Nat.ble 167 pc then
        bif Nat.beq pc 167 then some (.getfield 78, 3, [12, 800, 2], .inl 0, []) else none
       else
        bif Nat.beq pc 166 then some (.aload_n 0, 1, [], .inl 0, []) else none
     else
      bif Nat.ble 163 pc then
       bif Nat.ble 165 pc then
        bif Nat.beq pc 165 then some (.lconst 0, 1, [], .inr (.inl (0)), []) else none
       else
        bif Nat.beq pc 163 then some (.lload 7, 2, [], .inl 0, []) else none
      else
       bif Nat.ble 160 pc then
        bif Nat.beq pc 160 then some (.goto 28, 3, [], .inl 0, []) else none
       else
        bif Nat.beq pc 159 then some (.iconst 2, 1, [], .inl (2), []) else none
    else
     bif Nat.ble 150 pc then
      bif Nat.ble 155 pc then
       bif Nat.ble 156 pc then
        bif Nat.beq pc 156 then some (.ifCond .ne 7, 3, [], .inl 0, []) else none
       else
        bif Nat.beq pc 155 then some (.lcmp, 1, [], .inl 0, []) else none
      else
       bif Nat.ble 152 pc then
        bif Nat.beq pc 152 then some (.ldc2_w 246, 3, [], .inr (.inl (-1)), []) else none
       else
        bif Nat.beq pc 150 then some (.lload 5, 2, [], .inl 0, []) else none
     else
      bif Nat.ble 148 pc then
       bif Nat.ble 149 pc then
        bif Nat.beq pc 149 then some (.ireturn, 1, [], .inl 0, []) else none
       else
        bif Nat.beq pc 148 then some (.iconst 0, 1, [], .inl (0), []) else none
      else
       bif Nat.ble 145 pc then
        bif Nat.beq pc 145 then some (.goto 4, 3, [], .inl 0, []) else none
       else
        bif Nat.beq pc 144 then some (.iconst 4, 1, [], .inl (4), []) else none
 else
  bif Nat.ble 87 pc then
   bif Nat.ble 118 pc then
    bif Nat.ble 131 pc then
     bif Nat.ble 138 pc then
      bif Nat.ble 140 pc then
       bif Nat.ble 141 pc then
        bif Nat.beq pc 141 then some (.ifCond .ge 7, 3, [], .inl 0, []) else none
       else
        bif Nat.beq pc 140 then some (.lcmp, 1, [], .inl 0, []) else none
      else
       bif Nat.ble 139 pc then
        bif Nat.beq pc 139 then some (.lconst 0, 1, [], .inr (.inl (0)), []) else none
       else
        bif Nat.beq pc 138 then some (.lrem, 1, [], .inl 0, []) else none
     else
      bif Nat.ble 133 pc then
       bif Nat.ble 135 pc then
        bif Nat.beq pc 135 then some (.ldc2_w 304, 3, [], .inr (.inl (8)), []) else none
       else
        bif Nat.beq pc 133 then some (.lload 5, 2, [], .inl 0, []) else none
      else
       bif Nat.ble 132 pc then
        bif Nat.beq pc 132 then some (.ireturn, 1, [], .inl 0, []) else none
       else
        bif Nat.beq pc 131 then some (.iconst 0, 1, [], .inl (0), []) else none
    else
     bif Nat.ble 123 pc then
      bif Nat.ble 127 pc then
       bif Nat.ble 128 pc then
        bif Nat.beq pc 128 then some (.goto 4, 3, [], .inl 0, []) else none
       else
        bif Nat.beq pc 127 then some (.iconst 3, 1, [], .inl (3), []) else none
      else
       bif Nat.ble 124 pc then
        bif Nat.beq pc 124 then some (.ifCond .ne 7, 3, [], .inl 0, []) else none
       else
        bif Nat.beq pc 123 then some (.lcmp, 1, [], .inl 0, []) else none
     else
      bif Nat.ble 120 pc then
       bif Nat.ble 122 pc then
        bif Nat.beq pc 122 then some (.lconst 0, 1, [], .inr (.inl (0)), []) else none
       else
        bif Nat.beq pc 120 then some (.lload 5, 2, [], .inl 0, []) else none
      else
       bif Nat.ble 119 pc then
        bif Nat.beq pc 119 then some (.ireturn, 1, [], .inl 0, []) else none
       else
        bif Nat.beq pc 118 then some (.iconst 0, 1, [], .inl (0), []) else none
   else
    bif Nat.ble 103 pc then
     bif Nat.ble 110 pc then
      bif Nat.ble 114 pc then
       bif Nat.ble 115 pc then
        bif Nat.beq pc 115 then some (.goto 4, 3, [], .inl 0, []) else none
       else
        bif Nat.beq pc 114 then some (.iconst 2, 1, [], .inl (2), []) else none
      else
       bif Nat.ble 111 pc then
        bif Nat.beq pc 111 then some (.ifCond .ne 7, 3, [], .inl 0, []) else none
       else
        bif Nat.beq pc 110 then some (.lcmp, 1, [], .inl 0, []) else none
     else
      bif Nat.ble 105 pc then
       bif Nat.ble 107 pc then
        bif Nat.beq pc 107 then some (.ldc2_w 246, 3, [], .inr (.inl (-1)), []) else none
       else
        bif Nat.beq pc 105 then some (.lload 5, 2, [], .inl 0, []) else none
      else
       bif Nat.ble 104 pc then
        bif Nat.beq pc 104 then some (.ireturn, 1, [], .inl 0, []) else none
       else
        bif Nat.beq pc 103 then some (.iconst 1, 1, [], .inl (1), []) else none
    else
     bif Nat.ble 93 pc then
      bif Nat.ble 99 pc then
       bif Nat.ble 100 pc then
        bif Nat.beq pc 100 then some (.goto 4, 3, [], .inl 0, []) else none
       else
        bif Nat.beq pc 99 then some (.iconst 0, 1, [], .inl (0), []) else none
      else
       bif Nat.ble 96 pc then
        bif Nat.beq pc 96 then some (.ifCond .eq 7, 3, [], .inl 0, []) else none
       else
        bif Nat.beq pc 93 then some (.invokestatic 300, 3, [201, 4, 1, 9, 100], .inl 0, []) else none
     else
      bif Nat.ble 91 pc then
       bif Nat.ble 92 pc then
        bif Nat.beq pc 92 then some (.laload, 1, [], .inl 0, []) else none
       else
        bif Nat.beq pc 91 then some (.iload_n 2, 1, [], .inl 0, []) else none
      else
       bif Nat.ble 88 pc then
        bif Nat.beq pc 88 then some (.getfield 51, 3, [12, 783, 2], .inl 0, []) else none
       else
        bif Nat.beq pc 87 then some (.aload_n 0, 1, [], .inl 0, []) else none
  else
   bif Nat.ble 23 pc then
    bif Nat.ble 36 pc then
     bif Nat.ble 80 pc then
      bif Nat.ble 83 pc then
       bif Nat.ble 85 pc then
        bif Nat.beq pc 85 then some (.lload 7, 2, [], .inl 0, []) else none
       else
        bif Nat.beq pc 83 then some (.lload 5, 2, [], .inl 0, []) else none
      else
       bif Nat.ble 82 pc then
        bif Nat.beq pc 82 then some (.iaload, 1, [], .inl 0, []) else none
       else
        bif Nat.beq pc 80 then some (.iload 4, 2, [], .inl 0, []) else none
     else
      bif Nat.ble 76 pc then
       bif Nat.ble 77 pc then
        bif Nat.beq pc 77 then some (.getfield 30, 3, [12, 776, 2], .inl 0, []) else none
       else
        bif Nat.beq pc 76 then some (.aload_n 0, 1, [], .inl 0, []) else none
      else
       bif Nat.ble 37 pc then
        bif Nat.beq pc 37 then some (.tableswitch 183 0 5 #[39, 68, 83, 96, 113, 152], 39, [], .inl 0, []) else none
       else
        bif Nat.beq pc 36 then some (.iaload, 1, [], .inl 0, []) else none
    else
     bif Nat.ble 29 pc then
      bif Nat.ble 32 pc then
       bif Nat.ble 35 pc then
        bif Nat.beq pc 35 then some (.iload_n 2, 1, [], .inl 0, []) else none
       else
        bif Nat.beq pc 32 then some (.getfield 45, 3, [12, 781, 2], .inl 0, []) else none
      else
       bif Nat.ble 31 pc then
        bif Nat.beq pc 31 then some (.aload_n 0, 1, [], .inl 0, []) else none
       else
        bif Nat.beq pc 29 then some (.lstore 7, 2, [], .inl 0, []) else none
     else
      bif Nat.ble 27 pc then
       bif Nat.ble 28 pc then
        bif Nat.beq pc 28 then some (.laload, 1, [], .inl 0, []) else none
       else
        bif Nat.beq pc 27 then some (.iload_n 2, 1, [], .inl 0, []) else none
      else
       bif Nat.ble 24 pc then
        bif Nat.beq pc 24 then some (.getfield 48, 3, [12, 782, 2], .inl 0, []) else none
       else
        bif Nat.beq pc 23 then some (.aload_n 0, 1, [], .inl 0, []) else none
   else
    bif Nat.ble 11 pc then
     bif Nat.ble 16 pc then
      bif Nat.ble 20 pc then
       bif Nat.ble 21 pc then
        bif Nat.beq pc 21 then some (.lstore 5, 2, [], .inl 0, []) else none
       else
        bif Nat.beq pc 20 then some (.laload, 1, [], .inl 0, []) else none
      else
       bif Nat.ble 19 pc then
        bif Nat.beq pc 19 then some (.iload_n 3, 1, [], .inl 0, []) else none
       else
        bif Nat.beq pc 16 then some (.getfield 96, 3, [12, 806, 2], .inl 0, []) else none
     else
      bif Nat.ble 13 pc then
       bif Nat.ble 15 pc then
        bif Nat.beq pc 15 then some (.aload_n 0, 1, [], .inl 0, []) else none
       else
        bif Nat.beq pc 13 then some (.istore 4, 2, [], .inl 0, []) else none
      else
       bif Nat.ble 12 pc then
        bif Nat.beq pc 12 then some (.iadd, 1, [], .inl 0, []) else none
       else
        bif Nat.beq pc 11 then some (.iload_n 3, 1, [], .inl 0, []) else none
    else
     bif Nat.ble 6 pc then
      bif Nat.ble 9 pc then
       bif Nat.ble 10 pc then
        bif Nat.beq pc 10 then some (.imul, 1, [], .inl 0, []) else none
       else
        bif Nat.beq pc 9 then some (.iload_n 1, 1, [], .inl 0, []) else none
      else
       bif Nat.ble 7 pc then
        bif Nat.beq pc 7 then some (.bipush 6, 2, [], .inl (6), []) else none
       else
        bif Nat.beq pc 6 then some (.istore_n 3, 1, [], .inl 0, []) else none
     else
      bif Nat.ble 4 pc then
       bif Nat.ble 5 pc then
        bif Nat.beq pc 5 then some (.iaload, 1, [], .inl 0, []) else none
       else
        bif Nat.beq pc 4 then some (.iload_n 2, 1, [], .inl 0, []) else none
      else
       bif Nat.ble 1 pc then
        bif Nat.beq pc 1 then some (.getfield 42, 3, [12, 780, 2], .inl 0, []) else none
       else
        bif Nat.beq pc 0 then some (.aload_n 0, 1, [], .inl 0, []) else none
def kX12_isBetween (pc : Nat) : Option Ent := bif Nat.ble 91 pc then none else
 bif Nat.ble 46 pc then
  bif Nat.ble 70 pc then
   bif Nat.ble 80 pc then
    bif Nat.ble 85 pc then
     bif Nat.ble 89 pc then
      bif Nat.ble 90 pc then
       bif Nat.beq pc 90 then some (.ireturn, 1, [1], .inl 0, []) else none
      else
       bif Nat.beq pc 89 then some (.iconst 0, 1, [], .inl (0), []) else none
     else
      bif Nat.ble 86 pc then
       bif Nat.beq pc 86 then some (.goto 4, 3, [], .inl 0, []) else none
      else
       bif Nat.beq pc 85 then some (.iconst 1, 1, [], .inl (1), []) else none
    else
     bif Nat.ble 81 pc then
      bif Nat.ble 82 pc then
       bif Nat.beq pc 82 then some (.ifCond .gt 7, 3, [], .inl 0, []) else none
      else
       bif Nat.beq pc 81 then some (.dcmp .g, 1, [], .inl 0, []) else none
     else
      bif Nat.beq pc 80 then some (.l2d, 1, [], .inl 0, []) else none
   else
    bif Nat.ble 73 pc then
     bif Nat.ble 76 pc then
      bif Nat.ble 78 pc then
       bif Nat.beq pc 78 then some (.lload 5, 2, [], .inl 0, []) else none
      else
       bif Nat.beq pc 76 then some (.dload 7, 2, [], .inl 0, []) else none
     else
      bif Nat.beq pc 73 then some (.ifCond .lt 16, 3, [], .inl 0, []) else none
    else
     bif Nat.ble 71 pc then
      bif Nat.ble 72 pc then
       bif Nat.beq pc 72 then some (.dcmp .l, 1, [], .inl 0, []) else none
      else
       bif Nat.beq pc 71 then some (.l2d, 1, [], .inl 0, []) else none
     else
      bif Nat.beq pc 70 then some (.lload_n 3, 1, [], .inl 0, []) else none
  else
   bif Nat.ble 55 pc then
    bif Nat.ble 62 pc then
     bif Nat.ble 66 pc then
      bif Nat.ble 68 pc then
       bif Nat.beq pc 68 then some (.dload 7, 2, [], .inl 0, []) else none
      else
       bif Nat.beq pc 66 then some (.dstore 7, 2, [], .inl 0, []) else none
     else
      bif Nat.ble 63 pc then
       bif Nat.beq pc 63 then some (.invokestatic 312, 3, [9006], .inl 0, []) else none
      else
       bif Nat.beq pc 62 then some (.lload_n 1, 1, [], .inl 0, []) else none
    else
     bif Nat.ble 58 pc then
      bif Nat.ble 59 pc then
       bif Nat.beq pc 59 then some (.goto 7, 3, [], .inl 0, []) else none
      else
       bif Nat.beq pc 58 then some (.f2d, 1, [], .inl 0, []) else none
     else
      bif Nat.beq pc 55 then some (.invokestatic 306, 3, [9005], .inl 0, []) else none
   else
    bif Nat.ble 50 pc then
     bif Nat.ble 53 pc then
      bif Nat.ble 54 pc then
       bif Nat.beq pc 54 then some (.l2i, 1, [], .inl 0, []) else none
      else
       bif Nat.beq pc 53 then some (.lload_n 1, 1, [], .inl 0, []) else none
     else
      bif Nat.beq pc 50 then some (.if_icmp .ne 12, 3, [], .inl 0, []) else none
    else
     bif Nat.ble 47 pc then
      bif Nat.ble 48 pc then
       bif Nat.beq pc 48 then some (.bipush 6, 2, [], .inl (6), []) else none
      else
       bif Nat.beq pc 47 then some (.iload_n 0, 1, [], .inl 0, []) else none
     else
      bif Nat.beq pc 46 then some (.ireturn, 1, [1], .inl 0, []) else none
 else
  bif Nat.ble 20 pc then
   bif Nat.ble 29 pc then
    bif Nat.ble 38 pc then
     bif Nat.ble 42 pc then
      bif Nat.ble 45 pc then
       bif Nat.beq pc 45 then some (.iconst 0, 1, [], .inl (0), []) else none
      else
       bif Nat.beq pc 42 then some (.ifCond .ne 5, 3, [], .inl 0, []) else none
     else
      bif Nat.ble 41 pc then
       bif Nat.beq pc 41 then some (.lcmp, 1, [], .inl 0, []) else none
      else
       bif Nat.beq pc 38 then some (.ldc2_w 230, 3, [], .inr (.inl (9221120237041090560)), []) else none
    else
     bif Nat.ble 32 pc then
      bif Nat.ble 35 pc then
       bif Nat.beq pc 35 then some (.goto 6, 3, [], .inl 0, []) else none
      else
       bif Nat.beq pc 32 then some (.ldc2_w 224, 3, [], .inr (.inl (2143289344)), []) else none
     else
      bif Nat.beq pc 29 then some (.if_icmp .ne 9, 3, [], .inl 0, []) else none
   else
    bif Nat.ble 25 pc then
     bif Nat.ble 26 pc then
      bif Nat.ble 27 pc then
       bif Nat.beq pc 27 then some (.bipush 6, 2, [], .inl (6), []) else none
      else
       bif Nat.beq pc 26 then some (.iload_n 0, 1, [], .inl 0, []) else none
     else
      bif Nat.beq pc 25 then some (.lload_n 1, 1, [], .inl 0, []) else none
    else
     bif Nat.ble 23 pc then
      bif Nat.ble 24 pc then
       bif Nat.beq pc 24 then some (.ireturn, 1, [1], .inl 0, []) else none
      else
       bif Nat.beq pc 23 then some (.iconst 0, 1, [], .inl (0), []) else none
     else
      bif Nat.beq pc 20 then some (.goto 4, 3, [], .inl 0, []) else none
  else
   bif Nat.ble 9 pc then
    bif Nat.ble 15 pc then
     bif Nat.ble 16 pc then
      bif Nat.ble 19 pc then
       bif Nat.beq pc 19 then some (.iconst 1, 1, [], .inl (1), []) else none
      else
       bif Nat.beq pc 16 then some (.ifCond .gt 7, 3, [], .inl 0, []) else none
     else
      bif Nat.beq pc 15 then some (.lcmp, 1, [], .inl 0, []) else none
    else
     bif Nat.ble 12 pc then
      bif Nat.ble 13 pc then
       bif Nat.beq pc 13 then some (.lload 5, 2, [], .inl 0, []) else none
      else
       bif Nat.beq pc 12 then some (.lload_n 1, 1, [], .inl 0, []) else none
     else
      bif Nat.beq pc 9 then some (.ifCond .lt 14, 3, [], .inl 0, []) else none
   else
    bif Nat.ble 6 pc then
     bif Nat.ble 7 pc then
      bif Nat.ble 8 pc then
       bif Nat.beq pc 8 then some (.lcmp, 1, [], .inl 0, []) else none
      else
       bif Nat.beq pc 7 then some (.lload_n 3, 1, [], .inl 0, []) else none
     else
      bif Nat.beq pc 6 then some (.lload_n 1, 1, [], .inl 0, []) else none
    else
     bif Nat.ble 1 pc then
      bif Nat.ble 3 pc then
       bif Nat.beq pc 3 then some (.if_icmp .ge 22, 3, [], .inl 0, []) else none
      else
       bif Nat.beq pc 1 then some (.bipush 6, 2, [], .inl (6), []) else none
     else
      bif Nat.beq pc 0 then some (.iload_n 0, 1, [], .inl 0, []) else none
def kX12_make (pc : Nat) : Option Ent := bif Nat.ble 134 pc then none else
 bif Nat.ble 66 pc then
  bif Nat.ble 97 pc then
   bif Nat.ble 115 pc then
    bif Nat.ble 124 pc then
     bif Nat.ble 129 pc then
      bif Nat.ble 132 pc then
       bif Nat.ble 133 pc then
        bif Nat.beq pc 133 then some (.ireturn, 1, [], .inl 0, []) else none
       else
        bif Nat.beq pc 132 then some (.iload_n 2, 1, [], .inl 0, []) else none
      else
       bif Nat.beq pc 129 then some (.putfield 262, 3, [12, 792, 0], .inl 0, []) else none
     else
      bif Nat.ble 127 pc then
       bif Nat.ble 128 pc then
        bif Nat.beq pc 128 then some (.iadd, 1, [], .inl 0, []) else none
       else
        bif Nat.beq pc 127 then some (.iconst 0, 1, [], .inl (0), []) else none
      else
       bif Nat.beq pc 124 then some (.goto 4, 3, [], .inl 0, []) else none
    else
     bif Nat.ble 119 pc then
      bif Nat.ble 120 pc then
       bif Nat.ble 123 pc then
        bif Nat.beq pc 123 then some (.iconst 1, 1, [], .inl (1), []) else none
       else
        bif Nat.beq pc 120 then some (.ifCond .lt 7, 3, [], .inl 0, []) else none
      else
       bif Nat.beq pc 119 then some (.iload_n 2, 1, [], .inl 0, []) else none
     else
      bif Nat.ble 116 pc then
       bif Nat.beq pc 116 then some (.getfield 262, 3, [12, 792, 0], .inl 0, []) else none
      else
       bif Nat.beq pc 115 then some (.dup, 1, [], .inl 0, []) else none
   else
    bif Nat.ble 108 pc then
     bif Nat.ble 110 pc then
      bif Nat.ble 113 pc then
       bif Nat.ble 114 pc then
        bif Nat.beq pc 114 then some (.aload_n 0, 1, [], .inl 0, []) else none
       else
        bif Nat.beq pc 113 then some (.istore_n 2, 1, [], .inl 0, []) else none
      else
       bif Nat.beq pc 110 then some (.invokevirtual 322, 3, [199, 3, 1, 8, 12], .inl 0, []) else none
     else
      bif Nat.ble 109 pc then
       bif Nat.beq pc 109 then some (.iconst (-1), 1, [], .inl (-1), []) else none
      else
       bif Nat.beq pc 108 then some (.iload_n 1, 1, [], .inl 0, []) else none
    else
     bif Nat.ble 101 pc then
      bif Nat.ble 104 pc then
       bif Nat.ble 107 pc then
        bif Nat.beq pc 107 then some (.aload_n 0, 1, [], .inl 0, []) else none
       else
        bif Nat.beq pc 104 then some (.goto (-39), 3, [], .inl 0, []) else none
      else
       bif Nat.beq pc 101 then some (.iinc 2 1, 3, [], .inl (1), []) else none
     else
      bif Nat.ble 100 pc then
       bif Nat.beq pc 100 then some (.lastore, 1, [], .inl 0, []) else none
      else
       bif Nat.beq pc 97 then some (.invokestatic 242, 3, [177, 2, 2, 3, 100], .inl 0, []) else none
  else
   bif Nat.ble 84 pc then
    bif Nat.ble 90 pc then
     bif Nat.ble 92 pc then
      bif Nat.ble 95 pc then
       bif Nat.ble 96 pc then
        bif Nat.beq pc 96 then some (.laload, 1, [], .inl 0, []) else none
       else
        bif Nat.beq pc 95 then some (.iload_n 2, 1, [], .inl 0, []) else none
      else
       bif Nat.beq pc 92 then some (.getfield 93, 3, [12, 805, 2], .inl 0, []) else none
     else
      bif Nat.ble 91 pc then
       bif Nat.beq pc 91 then some (.aload_n 0, 1, [], .inl 0, []) else none
      else
       bif Nat.beq pc 90 then some (.iaload, 1, [], .inl 0, []) else none
    else
     bif Nat.ble 87 pc then
      bif Nat.ble 88 pc then
       bif Nat.ble 89 pc then
        bif Nat.beq pc 89 then some (.iadd, 1, [], .inl 0, []) else none
       else
        bif Nat.beq pc 88 then some (.iload_n 2, 1, [], .inl 0, []) else none
      else
       bif Nat.beq pc 87 then some (.imul, 1, [], .inl 0, []) else none
     else
      bif Nat.ble 86 pc then
       bif Nat.beq pc 86 then some (.iload_n 1, 1, [], .inl 0, []) else none
      else
       bif Nat.beq pc 84 then some (.bipush 6, 2, [], .inl (6), []) else none
   else
    bif Nat.ble 75 pc then
     bif Nat.ble 79 pc then
      bif Nat.ble 80 pc then
       bif Nat.ble 81 pc then
        bif Nat.beq pc 81 then some (.getfield 30, 3, [12, 776, 2], .inl 0, []) else none
       else
        bif Nat.beq pc 80 then some (.aload_n 0, 1, [], .inl 0, []) else none
      else
       bif Nat.beq pc 79 then some (.iload_n 2, 1, [], .inl 0, []) else none
     else
      bif Nat.ble 76 pc then
       bif Nat.beq pc 76 then some (.getfield 96, 3, [12, 806, 2], .inl 0, []) else none
      else
       bif Nat.beq pc 75 then some (.aload_n 0, 1, [], .inl 0, []) else none
    else
     bif Nat.ble 70 pc then
      bif Nat.ble 71 pc then
       bif Nat.ble 72 pc then
        bif Nat.beq pc 72 then some (.if_icmp .ge 35, 3, [], .inl 0, []) else none
       else
        bif Nat.beq pc 71 then some (.iaload, 1, [], .inl 0, []) else none
      else
       bif Nat.beq pc 70 then some (.iload_n 1, 1, [], .inl 0, []) else none
     else
      bif Nat.ble 67 pc then
       bif Nat.beq pc 67 then some (.getfield 24, 3, [12, 774, 2], .inl 0, []) else none
      else
       bif Nat.beq pc 66 then some (.aload_n 0, 1, [], .inl 0, []) else none
 else
  bif Nat.ble 29 pc then
   bif Nat.ble 45 pc then
    bif Nat.ble 57 pc then
     bif Nat.ble 63 pc then
      bif Nat.ble 64 pc then
       bif Nat.ble 65 pc then
        bif Nat.beq pc 65 then some (.iload_n 2, 1, [], .inl 0, [3]) else none
       else
        bif Nat.beq pc 64 then some (.istore_n 2, 1, [], .inl 0, []) else none
      else
       bif Nat.beq pc 63 then some (.iconst 0, 1, [], .inl (0), []) else none
     else
      bif Nat.ble 60 pc then
       bif Nat.ble 62 pc then
        bif Nat.beq pc 62 then some (.ireturn, 1, [], .inl 0, []) else none
       else
        bif Nat.beq pc 60 then some (.bipush (-3), 2, [], .inl (-3), []) else none
      else
       bif Nat.beq pc 57 then some (.if_icmp .ne 6, 3, [], .inl 0, []) else none
    else
     bif Nat.ble 51 pc then
      bif Nat.ble 52 pc then
       bif Nat.ble 55 pc then
        bif Nat.beq pc 55 then some (.bipush 100, 2, [], .inl (100), []) else none
       else
        bif Nat.beq pc 52 then some (.getfield 262, 3, [12, 792, 0], .inl 0, []) else none
      else
       bif Nat.beq pc 51 then some (.aload_n 0, 1, [], .inl 0, []) else none
     else
      bif Nat.ble 48 pc then
       bif Nat.beq pc 48 then some (.goto (-36), 3, [], .inl 0, []) else none
      else
       bif Nat.beq pc 45 then some (.iinc 2 1, 3, [], .inl (1), []) else none
   else
    bif Nat.ble 36 pc then
     bif Nat.ble 40 pc then
      bif Nat.ble 43 pc then
       bif Nat.ble 44 pc then
        bif Nat.beq pc 44 then some (.ireturn, 1, [], .inl 0, []) else none
       else
        bif Nat.beq pc 43 then some (.iconst (-1), 1, [], .inl (-1), []) else none
      else
       bif Nat.beq pc 40 then some (.ifCond .ne 5, 3, [], .inl 0, []) else none
     else
      bif Nat.ble 37 pc then
       bif Nat.beq pc 37 then some (.invokevirtual 318, 3, [197, 3, 1, 4, 12], .inl 0, []) else none
      else
       bif Nat.beq pc 36 then some (.laload, 1, [], .inl 0, []) else none
    else
     bif Nat.ble 31 pc then
      bif Nat.ble 32 pc then
       bif Nat.ble 35 pc then
        bif Nat.beq pc 35 then some (.iload_n 2, 1, [], .inl 0, []) else none
       else
        bif Nat.beq pc 32 then some (.getfield 93, 3, [12, 805, 2], .inl 0, []) else none
      else
       bif Nat.beq pc 31 then some (.aload_n 0, 1, [], .inl 0, []) else none
     else
      bif Nat.ble 30 pc then
       bif Nat.beq pc 30 then some (.iload_n 3, 1, [], .inl 0, []) else none
      else
       bif Nat.beq pc 29 then some (.aload_n 0, 1, [], .inl 0, []) else none
  else
   bif Nat.ble 14 pc then
    bif Nat.ble 24 pc then
     bif Nat.ble 26 pc then
      bif Nat.ble 27 pc then
       bif Nat.ble 28 pc then
        bif Nat.beq pc 28 then some (.istore_n 3, 1, [], .inl 0, []) else none
       else
        bif Nat.beq pc 27 then some (.iadd, 1, [], .inl 0, []) else none
      else
       bif Nat.beq pc 26 then some (.iload_n 2, 1, [], .inl 0, []) else none
     else
      bif Nat.ble 25 pc then
       bif Nat.beq pc 25 then some (.imul, 1, [], .inl 0, []) else none
      else
       bif Nat.beq pc 24 then some (.iload_n 1, 1, [], .inl 0, []) else none
    else
     bif Nat.ble 18 pc then
      bif Nat.ble 19 pc then
       bif Nat.ble 22 pc then
        bif Nat.beq pc 22 then some (.bipush 6, 2, [], .inl (6), []) else none
       else
        bif Nat.beq pc 19 then some (.if_icmp .ge 32, 3, [], .inl 0, []) else none
      else
       bif Nat.beq pc 18 then some (.iaload, 1, [], .inl 0, []) else none
     else
      bif Nat.ble 17 pc then
       bif Nat.beq pc 17 then some (.iload_n 1, 1, [], .inl 0, []) else none
      else
       bif Nat.beq pc 14 then some (.getfield 24, 3, [12, 774, 2], .inl 0, []) else none
   else
    bif Nat.ble 9 pc then
     bif Nat.ble 11 pc then
      bif Nat.ble 12 pc then
       bif Nat.ble 13 pc then
        bif Nat.beq pc 13 then some (.aload_n 0, 1, [], .inl 0, []) else none
       else
        bif Nat.beq pc 12 then some (.iload_n 2, 1, [], .inl 0, [3]) else none
      else
       bif Nat.beq pc 11 then some (.istore_n 2, 1, [], .inl 0, []) else none
     else
      bif Nat.ble 10 pc then
       bif Nat.beq pc 10 then some (.iconst 0, 1, [], .inl (0), []) else none
      else
       bif Nat.beq pc 9 then some (.ireturn, 1, [], .inl 0, []) else none
    else
     bif Nat.ble 2 pc then
      bif Nat.ble 5 pc then
       bif Nat.ble 8 pc then
        bif Nat.beq pc 8 then some (.iconst (-1), 1, [], .inl (-1), []) else none
       else
        bif Nat.beq pc 5 then some (.ifCond .ne 5, 3, [], .inl 0, []) else none
      else
       bif Nat.beq pc 2 then some (.invokevirtual 183, 3, [161, 2, 1, 2, 12], .inl 0, []) else none
     else
      bif Nat.ble 1 pc then
       bif Nat.beq pc 1 then some (.iload_n 1, 1, [], .inl 0, []) else none
      else
       bif Nat.beq pc 0 then some (.aload_n 0, 1, [], .inl 0, []) else none
def kX12_cause (pc : Nat) : Option Ent := bif Nat.ble 65 pc then none else
 bif Nat.ble 47 pc then
  bif Nat.ble 56 pc then
   bif Nat.ble 60 pc then
    bif Nat.ble 61 pc then
     bif Nat.ble 64 pc then
      bif Nat.beq pc 64 then some (.ireturn, 1, [], .inl 0, []) else none
     else
      bif Nat.beq pc 61 then some (.ldc_w 325, 3, [], .inl (-2147483648), []) else none
    else
     bif Nat.beq pc 60 then some (.ireturn, 1, [], .inl 0, []) else none
   else
    bif Nat.ble 57 pc then
     bif Nat.beq pc 57 then some (.getfield 109, 3, [12, 811, 0], .inl 0, []) else none
    else
     bif Nat.beq pc 56 then some (.aload_n 0, 1, [], .inl 0, []) else none
  else
   bif Nat.ble 51 pc then
    bif Nat.ble 52 pc then
     bif Nat.ble 55 pc then
      bif Nat.beq pc 55 then some (.ireturn, 1, [], .inl 0, []) else none
     else
      bif Nat.beq pc 52 then some (.getfield 106, 3, [12, 810, 0], .inl 0, []) else none
    else
     bif Nat.beq pc 51 then some (.aload_n 0, 1, [], .inl 0, []) else none
   else
    bif Nat.ble 50 pc then
     bif Nat.beq pc 50 then some (.ireturn, 1, [], .inl 0, []) else none
    else
     bif Nat.beq pc 47 then some (.getfield 103, 3, [12, 809, 0], .inl 0, []) else none
 else
  bif Nat.ble 40 pc then
   bif Nat.ble 42 pc then
    bif Nat.ble 45 pc then
     bif Nat.ble 46 pc then
      bif Nat.beq pc 46 then some (.aload_n 0, 1, [], .inl 0, []) else none
     else
      bif Nat.beq pc 45 then some (.ireturn, 1, [], .inl 0, []) else none
    else
     bif Nat.beq pc 42 then some (.getfield 99, 3, [12, 808, 0], .inl 0, []) else none
   else
    bif Nat.ble 41 pc then
     bif Nat.beq pc 41 then some (.aload_n 0, 1, [], .inl 0, []) else none
    else
     bif Nat.beq pc 40 then some (.ireturn, 1, [], .inl 0, []) else none
  else
   bif Nat.ble 36 pc then
    bif Nat.ble 37 pc then
     bif Nat.beq pc 37 then some (.getfield 287, 3, [12, 807, 0], .inl 0, []) else none
    else
     bif Nat.beq pc 36 then some (.aload_n 0, 1, [], .inl 0, []) else none
   else
    bif Nat.ble 1 pc then
     bif Nat.beq pc 1 then some (.tableswitch 60 0 4 #[35, 40, 45, 50, 55], 35, [], .inl 0, []) else none
    else
     bif Nat.beq pc 0 then some (.iload_n 1, 1, [], .inl 0, []) else none
def kX12_told (pc : Nat) : Option Ent := bif Nat.ble 50 pc then none else
 bif Nat.ble 23 pc then
  bif Nat.ble 38 pc then
   bif Nat.ble 42 pc then
    bif Nat.ble 46 pc then
     bif Nat.ble 49 pc then
      bif Nat.beq pc 49 then some (.lreturn, 1, [], .inl 0, []) else none
     else
      bif Nat.beq pc 46 then some (.ldc2_w 326, 3, [], .inr (.inl (-9223372036854775808)), []) else none
    else
     bif Nat.ble 43 pc then
      bif Nat.beq pc 43 then some (.goto 6, 3, [], .inl 0, []) else none
     else
      bif Nat.beq pc 42 then some (.laload, 1, [], .inl 0, []) else none
   else
    bif Nat.ble 40 pc then
     bif Nat.ble 41 pc then
      bif Nat.beq pc 41 then some (.iadd, 1, [], .inl 0, []) else none
     else
      bif Nat.beq pc 40 then some (.iload_n 2, 1, [], .inl 0, []) else none
    else
     bif Nat.ble 39 pc then
      bif Nat.beq pc 39 then some (.imul, 1, [], .inl 0, []) else none
     else
      bif Nat.beq pc 38 then some (.iload_n 1, 1, [], .inl 0, []) else none
  else
   bif Nat.ble 29 pc then
    bif Nat.ble 33 pc then
     bif Nat.ble 36 pc then
      bif Nat.beq pc 36 then some (.bipush 6, 2, [], .inl (6), []) else none
     else
      bif Nat.beq pc 33 then some (.getfield 87, 3, [12, 803, 2], .inl 0, []) else none
    else
     bif Nat.ble 32 pc then
      bif Nat.beq pc 32 then some (.aload_n 0, 1, [], .inl 0, []) else none
     else
      bif Nat.beq pc 29 then some (.ifCond .eq 17, 3, [], .inl 0, []) else none
   else
    bif Nat.ble 25 pc then
     bif Nat.ble 26 pc then
      bif Nat.beq pc 26 then some (.invokestatic 169, 3, [157, 3, 1, 6, 100], .inl 0, []) else none
     else
      bif Nat.beq pc 25 then some (.i2l, 1, [], .inl 0, []) else none
    else
     bif Nat.ble 24 pc then
      bif Nat.beq pc 24 then some (.isub, 1, [], .inl 0, []) else none
     else
      bif Nat.beq pc 23 then some (.iconst 1, 1, [], .inl (1), []) else none
 else
  bif Nat.ble 11 pc then
   bif Nat.ble 17 pc then
    bif Nat.ble 21 pc then
     bif Nat.ble 22 pc then
      bif Nat.beq pc 22 then some (.iaload, 1, [], .inl 0, []) else none
     else
      bif Nat.beq pc 21 then some (.iaload, 1, [], .inl 0, []) else none
    else
     bif Nat.ble 20 pc then
      bif Nat.beq pc 20 then some (.iload_n 1, 1, [], .inl 0, []) else none
     else
      bif Nat.beq pc 17 then some (.getfield 84, 3, [12, 802, 2], .inl 0, []) else none
   else
    bif Nat.ble 13 pc then
     bif Nat.ble 16 pc then
      bif Nat.beq pc 16 then some (.aload_n 0, 1, [], .inl 0, []) else none
     else
      bif Nat.beq pc 13 then some (.getfield 24, 3, [12, 774, 2], .inl 0, []) else none
    else
     bif Nat.ble 12 pc then
      bif Nat.beq pc 12 then some (.aload_n 0, 1, [], .inl 0, []) else none
     else
      bif Nat.beq pc 11 then some (.lconst 0, 1, [], .inr (.inl (0)), []) else none
  else
   bif Nat.ble 3 pc then
    bif Nat.ble 9 pc then
     bif Nat.ble 10 pc then
      bif Nat.beq pc 10 then some (.i2l, 1, [], .inl 0, []) else none
     else
      bif Nat.beq pc 9 then some (.iload_n 2, 1, [], .inl 0, []) else none
    else
     bif Nat.ble 6 pc then
      bif Nat.beq pc 6 then some (.ifCond .eq 40, 3, [], .inl 0, []) else none
     else
      bif Nat.beq pc 3 then some (.invokevirtual 281, 3, [196, 2, 1, 3, 12], .inl 0, []) else none
   else
    bif Nat.ble 1 pc then
     bif Nat.ble 2 pc then
      bif Nat.beq pc 2 then some (.i2l, 1, [], .inl 0, []) else none
     else
      bif Nat.beq pc 1 then some (.iload_n 1, 1, [], .inl 0, []) else none
    else
     bif Nat.beq pc 0 then some (.aload_n 0, 1, [], .inl 0, []) else none
def kX12_of (pc : Nat) : Option Ent := bif Nat.ble 20 pc then none else
 bif Nat.ble 10 pc then
  bif Nat.ble 15 pc then
   bif Nat.ble 18 pc then
    bif Nat.ble 19 pc then
     bif Nat.beq pc 19 then some (.ireturn, 1, [], .inl 0, []) else none
    else
     bif Nat.beq pc 18 then some (.iconst (-1), 1, [], .inl (-1), []) else none
   else
    bif Nat.beq pc 15 then some (.goto 4, 3, [], .inl 0, []) else none
  else
   bif Nat.ble 13 pc then
    bif Nat.ble 14 pc then
     bif Nat.beq pc 14 then some (.iaload, 1, [], .inl 0, []) else none
    else
     bif Nat.beq pc 13 then some (.iload_n 1, 1, [], .inl 0, []) else none
   else
    bif Nat.beq pc 10 then some (.getfield 84, 3, [12, 802, 2], .inl 0, []) else none
 else
  bif Nat.ble 3 pc then
   bif Nat.ble 6 pc then
    bif Nat.ble 9 pc then
     bif Nat.beq pc 9 then some (.aload_n 0, 1, [], .inl 0, []) else none
    else
     bif Nat.beq pc 6 then some (.ifCond .eq 12, 3, [], .inl 0, []) else none
   else
    bif Nat.beq pc 3 then some (.invokevirtual 281, 3, [196, 2, 1, 3, 12], .inl 0, []) else none
  else
   bif Nat.ble 1 pc then
    bif Nat.ble 2 pc then
     bif Nat.beq pc 2 then some (.i2l, 1, [], .inl 0, []) else none
    else
     bif Nat.beq pc 1 then some (.iload_n 1, 1, [], .inl 0, []) else none
   else
    bif Nat.beq pc 0 then some (.aload_n 0, 1, [], .inl 0, []) else none
def kX12_tag (pc : Nat) : Option Ent := bif Nat.ble 35 pc then none else
 bif Nat.ble 18 pc then
  bif Nat.ble 25 pc then
   bif Nat.ble 30 pc then
    bif Nat.ble 31 pc then
     bif Nat.ble 34 pc then
      bif Nat.beq pc 34 then some (.ireturn, 1, [], .inl 0, []) else none
     else
      bif Nat.beq pc 31 then some (.invokevirtual 210, 3, [173, 2, 1, 3, 12], .inl 0, []) else none
    else
     bif Nat.beq pc 30 then some (.iaload, 1, [], .inl 0, []) else none
   else
    bif Nat.ble 26 pc then
     bif Nat.ble 29 pc then
      bif Nat.beq pc 29 then some (.iload_n 1, 1, [], .inl 0, []) else none
     else
      bif Nat.beq pc 26 then some (.getfield 84, 3, [12, 802, 2], .inl 0, []) else none
    else
     bif Nat.beq pc 25 then some (.aload_n 0, 1, [], .inl 0, []) else none
  else
   bif Nat.ble 20 pc then
    bif Nat.ble 21 pc then
     bif Nat.ble 24 pc then
      bif Nat.beq pc 24 then some (.aload_n 0, 1, [], .inl 0, []) else none
     else
      bif Nat.beq pc 21 then some (.invokevirtual 214, 3, [172, 2, 0, 5, 12], .inl 0, []) else none
    else
     bif Nat.beq pc 20 then some (.iload_n 2, 1, [], .inl 0, []) else none
   else
    bif Nat.ble 19 pc then
     bif Nat.beq pc 19 then some (.aload_n 0, 1, [], .inl 0, []) else none
    else
     bif Nat.beq pc 18 then some (.ireturn, 1, [], .inl 0, []) else none
 else
  bif Nat.ble 9 pc then
   bif Nat.ble 11 pc then
    bif Nat.ble 14 pc then
     bif Nat.ble 17 pc then
      bif Nat.beq pc 17 then some (.iconst (-1), 1, [], .inl (-1), []) else none
     else
      bif Nat.beq pc 14 then some (.ifCond .ne 5, 3, [], .inl 0, []) else none
    else
     bif Nat.beq pc 11 then some (.invokevirtual 204, 3, [163, 2, 1, 2, 12], .inl 0, []) else none
   else
    bif Nat.ble 10 pc then
     bif Nat.beq pc 10 then some (.iload_n 2, 1, [], .inl 0, []) else none
    else
     bif Nat.beq pc 9 then some (.aload_n 0, 1, [], .inl 0, []) else none
  else
   bif Nat.ble 2 pc then
    bif Nat.ble 3 pc then
     bif Nat.ble 6 pc then
      bif Nat.beq pc 6 then some (.ifCond .eq 11, 3, [], .inl 0, []) else none
     else
      bif Nat.beq pc 3 then some (.invokevirtual 281, 3, [196, 2, 1, 3, 12], .inl 0, []) else none
    else
     bif Nat.beq pc 2 then some (.i2l, 1, [], .inl 0, []) else none
   else
    bif Nat.ble 1 pc then
     bif Nat.beq pc 1 then some (.iload_n 1, 1, [], .inl 0, []) else none
    else
     bif Nat.beq pc 0 then some (.aload_n 0, 1, [], .inl 0, []) else none
def kX12_areLike (pc : Nat) : Option Ent := bif Nat.ble 145 pc then none else
 bif Nat.ble 69 pc then
  bif Nat.ble 106 pc then
   bif Nat.ble 124 pc then
    bif Nat.ble 133 pc then
     bif Nat.ble 139 pc then
      bif Nat.ble 142 pc then
       bif Nat.ble 144 pc then
        bif Nat.beq pc 144 then some (.ireturn, 1, [1], .inl 0, []) else none
       else
        bif Nat.beq pc 142 then some (.iload 4, 2, [], .inl 0, []) else none
      else
       bif Nat.beq pc 139 then some (.goto (-112), 3, [], .inl 0, []) else none
     else
      bif Nat.ble 134 pc then
       bif Nat.ble 136 pc then
        bif Nat.beq pc 136 then some (.iinc 5 1, 3, [], .inl (1), []) else none
       else
        bif Nat.beq pc 134 then some (.istore 4, 2, [], .inl 0, []) else none
      else
       bif Nat.beq pc 133 then some (.iconst 0, 1, [], .inl (0), []) else none
    else
     bif Nat.ble 126 pc then
      bif Nat.ble 129 pc then
       bif Nat.ble 130 pc then
        bif Nat.beq pc 130 then some (.goto 4, 3, [], .inl 0, []) else none
       else
        bif Nat.beq pc 129 then some (.iconst 1, 1, [], .inl (1), []) else none
      else
       bif Nat.beq pc 126 then some (.if_icmp .ne 7, 3, [], .inl 0, []) else none
     else
      bif Nat.ble 125 pc then
       bif Nat.beq pc 125 then some (.iaload, 1, [], .inl 0, []) else none
      else
       bif Nat.beq pc 124 then some (.l2i, 1, [], .inl 0, []) else none
   else
    bif Nat.ble 116 pc then
     bif Nat.ble 118 pc then
      bif Nat.ble 119 pc then
       bif Nat.ble 122 pc then
        bif Nat.beq pc 122 then some (.lload 8, 2, [], .inl 0, []) else none
       else
        bif Nat.beq pc 119 then some (.getfield 112, 3, [12, 812, 2], .inl 0, []) else none
      else
       bif Nat.beq pc 118 then some (.aload_n 0, 1, [], .inl 0, []) else none
     else
      bif Nat.ble 117 pc then
       bif Nat.beq pc 117 then some (.iaload, 1, [], .inl 0, []) else none
      else
       bif Nat.beq pc 116 then some (.l2i, 1, [], .inl 0, []) else none
    else
     bif Nat.ble 110 pc then
      bif Nat.ble 111 pc then
       bif Nat.ble 114 pc then
        bif Nat.beq pc 114 then some (.lload 6, 2, [], .inl 0, []) else none
       else
        bif Nat.beq pc 111 then some (.getfield 112, 3, [12, 812, 2], .inl 0, []) else none
      else
       bif Nat.beq pc 110 then some (.aload_n 0, 1, [], .inl 0, []) else none
     else
      bif Nat.ble 107 pc then
       bif Nat.beq pc 107 then some (.ifCond .lt 26, 3, [], .inl 0, []) else none
      else
       bif Nat.beq pc 106 then some (.lcmp, 1, [], .inl 0, []) else none
  else
   bif Nat.ble 87 pc then
    bif Nat.ble 96 pc then
     bif Nat.ble 100 pc then
      bif Nat.ble 103 pc then
       bif Nat.ble 105 pc then
        bif Nat.beq pc 105 then some (.lconst 0, 1, [], .inr (.inl (0)), []) else none
       else
        bif Nat.beq pc 103 then some (.lload 8, 2, [], .inl 0, []) else none
      else
       bif Nat.beq pc 100 then some (.ifCond .lt 33, 3, [], .inl 0, []) else none
     else
      bif Nat.ble 98 pc then
       bif Nat.ble 99 pc then
        bif Nat.beq pc 99 then some (.lcmp, 1, [], .inl 0, []) else none
       else
        bif Nat.beq pc 98 then some (.lconst 0, 1, [], .inr (.inl (0)), []) else none
      else
       bif Nat.beq pc 96 then some (.lload 6, 2, [], .inl 0, []) else none
    else
     bif Nat.ble 90 pc then
      bif Nat.ble 91 pc then
       bif Nat.ble 93 pc then
        bif Nat.beq pc 93 then some (.if_icmp .ne 40, 3, [], .inl 0, []) else none
       else
        bif Nat.beq pc 91 then some (.bipush 11, 2, [], .inl (11), []) else none
      else
       bif Nat.beq pc 90 then some (.iaload, 1, [], .inl 0, []) else none
     else
      bif Nat.ble 89 pc then
       bif Nat.beq pc 89 then some (.iadd, 1, [], .inl 0, []) else none
      else
       bif Nat.beq pc 87 then some (.iload 5, 2, [], .inl 0, []) else none
   else
    bif Nat.ble 79 pc then
     bif Nat.ble 83 pc then
      bif Nat.ble 85 pc then
       bif Nat.ble 86 pc then
        bif Nat.beq pc 86 then some (.imul, 1, [], .inl 0, []) else none
       else
        bif Nat.beq pc 85 then some (.iload_n 3, 1, [], .inl 0, []) else none
      else
       bif Nat.beq pc 83 then some (.bipush 6, 2, [], .inl (6), []) else none
     else
      bif Nat.ble 80 pc then
       bif Nat.beq pc 80 then some (.getfield 30, 3, [12, 776, 2], .inl 0, []) else none
      else
       bif Nat.beq pc 79 then some (.aload_n 0, 1, [], .inl 0, []) else none
    else
     bif Nat.ble 73 pc then
      bif Nat.ble 75 pc then
       bif Nat.ble 76 pc then
        bif Nat.beq pc 76 then some (.ifCond .eq 53, 3, [], .inl 0, []) else none
       else
        bif Nat.beq pc 75 then some (.lcmp, 1, [], .inl 0, []) else none
      else
       bif Nat.beq pc 73 then some (.lload 8, 2, [], .inl 0, []) else none
     else
      bif Nat.ble 71 pc then
       bif Nat.beq pc 71 then some (.lload 6, 2, [], .inl 0, []) else none
      else
       bif Nat.beq pc 69 then some (.lstore 8, 2, [], .inl 0, []) else none
 else
  bif Nat.ble 34 pc then
   bif Nat.ble 53 pc then
    bif Nat.ble 61 pc then
     bif Nat.ble 65 pc then
      bif Nat.ble 67 pc then
       bif Nat.ble 68 pc then
        bif Nat.beq pc 68 then some (.laload, 1, [], .inl 0, []) else none
       else
        bif Nat.beq pc 67 then some (.iadd, 1, [], .inl 0, []) else none
      else
       bif Nat.beq pc 65 then some (.iload 5, 2, [], .inl 0, []) else none
     else
      bif Nat.ble 63 pc then
       bif Nat.ble 64 pc then
        bif Nat.beq pc 64 then some (.imul, 1, [], .inl 0, []) else none
       else
        bif Nat.beq pc 63 then some (.iload_n 2, 1, [], .inl 0, []) else none
      else
       bif Nat.beq pc 61 then some (.bipush 6, 2, [], .inl (6), []) else none
    else
     bif Nat.ble 55 pc then
      bif Nat.ble 57 pc then
       bif Nat.ble 58 pc then
        bif Nat.beq pc 58 then some (.getfield 87, 3, [12, 803, 2], .inl 0, []) else none
       else
        bif Nat.beq pc 57 then some (.aload_n 0, 1, [], .inl 0, []) else none
      else
       bif Nat.beq pc 55 then some (.lstore 6, 2, [], .inl 0, []) else none
     else
      bif Nat.ble 54 pc then
       bif Nat.beq pc 54 then some (.laload, 1, [], .inl 0, []) else none
      else
       bif Nat.beq pc 53 then some (.iadd, 1, [], .inl 0, []) else none
   else
    bif Nat.ble 44 pc then
     bif Nat.ble 49 pc then
      bif Nat.ble 50 pc then
       bif Nat.ble 51 pc then
        bif Nat.beq pc 51 then some (.iload 5, 2, [], .inl 0, []) else none
       else
        bif Nat.beq pc 50 then some (.imul, 1, [], .inl 0, []) else none
      else
       bif Nat.beq pc 49 then some (.iload_n 1, 1, [], .inl 0, []) else none
     else
      bif Nat.ble 47 pc then
       bif Nat.beq pc 47 then some (.bipush 6, 2, [], .inl (6), []) else none
      else
       bif Nat.beq pc 44 then some (.getfield 87, 3, [12, 803, 2], .inl 0, []) else none
    else
     bif Nat.ble 38 pc then
      bif Nat.ble 40 pc then
       bif Nat.ble 43 pc then
        bif Nat.beq pc 43 then some (.aload_n 0, 1, [], .inl 0, []) else none
       else
        bif Nat.beq pc 40 then some (.ifCond .eq 102, 3, [], .inl 0, []) else none
      else
       bif Nat.beq pc 38 then some (.iload 4, 2, [], .inl 0, []) else none
     else
      bif Nat.ble 35 pc then
       bif Nat.beq pc 35 then some (.if_icmp .ge 107, 3, [], .inl 0, []) else none
      else
       bif Nat.beq pc 34 then some (.iaload, 1, [], .inl 0, []) else none
  else
   bif Nat.ble 14 pc then
    bif Nat.ble 24 pc then
     bif Nat.ble 29 pc then
      bif Nat.ble 30 pc then
       bif Nat.ble 33 pc then
        bif Nat.beq pc 33 then some (.iload_n 3, 1, [], .inl 0, []) else none
       else
        bif Nat.beq pc 30 then some (.getfield 24, 3, [12, 774, 2], .inl 0, []) else none
      else
       bif Nat.beq pc 29 then some (.aload_n 0, 1, [], .inl 0, []) else none
     else
      bif Nat.ble 25 pc then
       bif Nat.ble 27 pc then
        bif Nat.beq pc 27 then some (.iload 5, 2, [], .inl 0, [6, 7, 8, 9]) else none
       else
        bif Nat.beq pc 25 then some (.istore 5, 2, [], .inl 0, []) else none
      else
       bif Nat.beq pc 24 then some (.iconst 0, 1, [], .inl (0), []) else none
    else
     bif Nat.ble 18 pc then
      bif Nat.ble 21 pc then
       bif Nat.ble 22 pc then
        bif Nat.beq pc 22 then some (.istore 4, 2, [], .inl 0, []) else none
       else
        bif Nat.beq pc 21 then some (.iconst 0, 1, [], .inl (0), []) else none
      else
       bif Nat.beq pc 18 then some (.goto 4, 3, [], .inl 0, []) else none
     else
      bif Nat.ble 17 pc then
       bif Nat.beq pc 17 then some (.iconst 1, 1, [], .inl (1), []) else none
      else
       bif Nat.beq pc 14 then some (.if_icmp .ne 7, 3, [], .inl 0, []) else none
   else
    bif Nat.ble 7 pc then
     bif Nat.ble 11 pc then
      bif Nat.ble 12 pc then
       bif Nat.ble 13 pc then
        bif Nat.beq pc 13 then some (.iload_n 3, 1, [], .inl 0, []) else none
       else
        bif Nat.beq pc 12 then some (.iaload, 1, [], .inl 0, []) else none
      else
       bif Nat.beq pc 11 then some (.iload_n 2, 1, [], .inl 0, []) else none
     else
      bif Nat.ble 8 pc then
       bif Nat.beq pc 8 then some (.getfield 84, 3, [12, 802, 2], .inl 0, []) else none
      else
       bif Nat.beq pc 7 then some (.aload_n 0, 1, [], .inl 0, []) else none
    else
     bif Nat.ble 4 pc then
      bif Nat.ble 5 pc then
       bif Nat.ble 6 pc then
        bif Nat.beq pc 6 then some (.istore_n 3, 1, [], .inl 0, []) else none
       else
        bif Nat.beq pc 5 then some (.iaload, 1, [], .inl 0, []) else none
      else
       bif Nat.beq pc 4 then some (.iload_n 1, 1, [], .inl 0, []) else none
     else
      bif Nat.ble 1 pc then
       bif Nat.beq pc 1 then some (.getfield 84, 3, [12, 802, 2], .inl 0, []) else none
      else
       bif Nat.beq pc 0 then some (.aload_n 0, 1, [], .inl 0, []) else none
def kX12_same (pc : Nat) : Option Ent := bif Nat.ble 135 pc then none else
 bif Nat.ble 61 pc then
  bif Nat.ble 100 pc then
   bif Nat.ble 119 pc then
    bif Nat.ble 126 pc then
     bif Nat.ble 130 pc then
      bif Nat.ble 133 pc then
       bif Nat.ble 134 pc then
        bif Nat.beq pc 134 then some (.ireturn, 1, [], .inl 0, []) else none
       else
        bif Nat.beq pc 133 then some (.iconst 0, 1, [], .inl (0), []) else none
      else
       bif Nat.beq pc 130 then some (.goto 4, 3, [], .inl 0, []) else none
     else
      bif Nat.ble 129 pc then
       bif Nat.beq pc 129 then some (.iconst 1, 1, [], .inl (1), []) else none
      else
       bif Nat.beq pc 126 then some (.if_icmp .ne 7, 3, [], .inl 0, []) else none
    else
     bif Nat.ble 121 pc then
      bif Nat.ble 124 pc then
       bif Nat.ble 125 pc then
        bif Nat.beq pc 125 then some (.iaload, 1, [], .inl 0, []) else none
       else
        bif Nat.beq pc 124 then some (.iload_n 2, 1, [], .inl 0, []) else none
      else
       bif Nat.beq pc 121 then some (.getfield 112, 3, [12, 812, 2], .inl 0, []) else none
     else
      bif Nat.ble 120 pc then
       bif Nat.beq pc 120 then some (.aload_n 0, 1, [], .inl 0, []) else none
      else
       bif Nat.beq pc 119 then some (.iaload, 1, [], .inl 0, []) else none
   else
    bif Nat.ble 108 pc then
     bif Nat.ble 114 pc then
      bif Nat.ble 115 pc then
       bif Nat.ble 118 pc then
        bif Nat.beq pc 118 then some (.iload_n 1, 1, [], .inl 0, []) else none
       else
        bif Nat.beq pc 115 then some (.getfield 112, 3, [12, 812, 2], .inl 0, []) else none
      else
       bif Nat.beq pc 114 then some (.aload_n 0, 1, [], .inl 0, []) else none
     else
      bif Nat.ble 111 pc then
       bif Nat.beq pc 111 then some (.goto (-77), 3, [], .inl 0, []) else none
      else
       bif Nat.beq pc 108 then some (.iinc 4 1, 3, [], .inl (1), []) else none
    else
     bif Nat.ble 102 pc then
      bif Nat.ble 105 pc then
       bif Nat.beq pc 105 then some (.goto (-50), 3, [], .inl 0, []) else none
      else
       bif Nat.beq pc 102 then some (.iinc 5 (-1), 3, [], .inl (-1), []) else none
     else
      bif Nat.ble 101 pc then
       bif Nat.beq pc 101 then some (.iastore, 1, [], .inl 0, []) else none
      else
       bif Nat.beq pc 100 then some (.iaload, 1, [], .inl 0, []) else none
  else
   bif Nat.ble 79 pc then
    bif Nat.ble 89 pc then
     bif Nat.ble 94 pc then
      bif Nat.ble 95 pc then
       bif Nat.ble 98 pc then
        bif Nat.beq pc 98 then some (.iload 4, 2, [], .inl 0, []) else none
       else
        bif Nat.beq pc 95 then some (.getfield 112, 3, [12, 812, 2], .inl 0, []) else none
      else
       bif Nat.beq pc 94 then some (.aload_n 0, 1, [], .inl 0, []) else none
     else
      bif Nat.ble 91 pc then
       bif Nat.beq pc 91 then some (.goto 10, 3, [], .inl 0, []) else none
      else
       bif Nat.beq pc 89 then some (.iload 5, 2, [], .inl 0, []) else none
    else
     bif Nat.ble 83 pc then
      bif Nat.ble 86 pc then
       bif Nat.beq pc 86 then some (.ifCond .eq 8, 3, [], .inl 0, []) else none
      else
       bif Nat.beq pc 83 then some (.invokevirtual 328, 3, [207, 3, 1, 10, 12], .inl 0, []) else none
     else
      bif Nat.ble 81 pc then
       bif Nat.beq pc 81 then some (.iload 4, 2, [], .inl 0, []) else none
      else
       bif Nat.beq pc 79 then some (.iload 5, 2, [], .inl 0, []) else none
   else
    bif Nat.ble 70 pc then
     bif Nat.ble 73 pc then
      bif Nat.ble 75 pc then
       bif Nat.ble 78 pc then
        bif Nat.beq pc 78 then some (.aload_n 0, 1, [], .inl 0, []) else none
       else
        bif Nat.beq pc 75 then some (.if_icmp .ne 19, 3, [], .inl 0, []) else none
      else
       bif Nat.beq pc 73 then some (.iload 5, 2, [], .inl 0, []) else none
     else
      bif Nat.ble 72 pc then
       bif Nat.beq pc 72 then some (.iaload, 1, [], .inl 0, []) else none
      else
       bif Nat.beq pc 70 then some (.iload 5, 2, [], .inl 0, []) else none
    else
     bif Nat.ble 66 pc then
      bif Nat.ble 67 pc then
       bif Nat.beq pc 67 then some (.getfield 112, 3, [12, 812, 2], .inl 0, []) else none
      else
       bif Nat.beq pc 66 then some (.aload_n 0, 1, [], .inl 0, []) else none
     else
      bif Nat.ble 64 pc then
       bif Nat.beq pc 64 then some (.iload 4, 2, [], .inl 0, []) else none
      else
       bif Nat.beq pc 61 then some (.getfield 112, 3, [12, 812, 2], .inl 0, []) else none
 else
  bif Nat.ble 30 pc then
   bif Nat.ble 46 pc then
    bif Nat.ble 52 pc then
     bif Nat.ble 55 pc then
      bif Nat.ble 57 pc then
       bif Nat.ble 60 pc then
        bif Nat.beq pc 60 then some (.aload_n 0, 1, [], .inl 0, []) else none
       else
        bif Nat.beq pc 57 then some (.ifCond .lt 51, 3, [], .inl 0, []) else none
      else
       bif Nat.beq pc 55 then some (.iload 5, 2, [], .inl 0, []) else none
     else
      bif Nat.ble 53 pc then
       bif Nat.beq pc 53 then some (.istore 5, 2, [], .inl 0, []) else none
      else
       bif Nat.beq pc 52 then some (.isub, 1, [], .inl 0, []) else none
    else
     bif Nat.ble 49 pc then
      bif Nat.ble 51 pc then
       bif Nat.beq pc 51 then some (.iconst 1, 1, [], .inl (1), []) else none
      else
       bif Nat.beq pc 49 then some (.iload 4, 2, [], .inl 0, []) else none
     else
      bif Nat.ble 48 pc then
       bif Nat.beq pc 48 then some (.iastore, 1, [], .inl 0, []) else none
      else
       bif Nat.beq pc 46 then some (.iload 4, 2, [], .inl 0, []) else none
   else
    bif Nat.ble 36 pc then
     bif Nat.ble 40 pc then
      bif Nat.ble 41 pc then
       bif Nat.ble 44 pc then
        bif Nat.beq pc 44 then some (.iload 4, 2, [], .inl 0, []) else none
       else
        bif Nat.beq pc 41 then some (.getfield 112, 3, [12, 812, 2], .inl 0, []) else none
      else
       bif Nat.beq pc 40 then some (.aload_n 0, 1, [], .inl 0, []) else none
     else
      bif Nat.ble 37 pc then
       bif Nat.beq pc 37 then some (.if_icmp .gt 77, 3, [], .inl 0, []) else none
      else
       bif Nat.beq pc 36 then some (.iload_n 3, 1, [], .inl 0, []) else none
    else
     bif Nat.ble 32 pc then
      bif Nat.ble 34 pc then
       bif Nat.beq pc 34 then some (.iload 4, 2, [], .inl 0, [5]) else none
      else
       bif Nat.beq pc 32 then some (.istore 4, 2, [], .inl 0, []) else none
     else
      bif Nat.ble 31 pc then
       bif Nat.beq pc 31 then some (.iconst 0, 1, [], .inl (0), []) else none
      else
       bif Nat.beq pc 30 then some (.istore_n 3, 1, [], .inl 0, []) else none
  else
   bif Nat.ble 15 pc then
    bif Nat.ble 21 pc then
     bif Nat.ble 25 pc then
      bif Nat.ble 26 pc then
       bif Nat.ble 29 pc then
        bif Nat.beq pc 29 then some (.iload_n 2, 1, [], .inl 0, []) else none
       else
        bif Nat.beq pc 26 then some (.goto 4, 3, [], .inl 0, []) else none
      else
       bif Nat.beq pc 25 then some (.iload_n 1, 1, [], .inl 0, []) else none
     else
      bif Nat.ble 22 pc then
       bif Nat.beq pc 22 then some (.if_icmp .le 7, 3, [], .inl 0, []) else none
      else
       bif Nat.beq pc 21 then some (.iload_n 2, 1, [], .inl 0, []) else none
    else
     bif Nat.ble 19 pc then
      bif Nat.ble 20 pc then
       bif Nat.beq pc 20 then some (.iload_n 1, 1, [], .inl 0, []) else none
      else
       bif Nat.beq pc 19 then some (.ireturn, 1, [], .inl 0, []) else none
     else
      bif Nat.ble 18 pc then
       bif Nat.beq pc 18 then some (.iconst (-1), 1, [], .inl (-1), []) else none
      else
       bif Nat.beq pc 15 then some (.ifCond .ne 5, 3, [], .inl 0, []) else none
   else
    bif Nat.ble 6 pc then
     bif Nat.ble 10 pc then
      bif Nat.ble 11 pc then
       bif Nat.ble 12 pc then
        bif Nat.beq pc 12 then some (.invokevirtual 281, 3, [196, 2, 1, 3, 12], .inl 0, []) else none
       else
        bif Nat.beq pc 11 then some (.i2l, 1, [], .inl 0, []) else none
      else
       bif Nat.beq pc 10 then some (.iload_n 2, 1, [], .inl 0, []) else none
     else
      bif Nat.ble 9 pc then
       bif Nat.beq pc 9 then some (.aload_n 0, 1, [], .inl 0, []) else none
      else
       bif Nat.beq pc 6 then some (.ifCond .eq 12, 3, [], .inl 0, []) else none
    else
     bif Nat.ble 2 pc then
      bif Nat.ble 3 pc then
       bif Nat.beq pc 3 then some (.invokevirtual 281, 3, [196, 2, 1, 3, 12], .inl 0, []) else none
      else
       bif Nat.beq pc 2 then some (.i2l, 1, [], .inl 0, []) else none
     else
      bif Nat.ble 1 pc then
       bif Nat.beq pc 1 then some (.iload_n 1, 1, [], .inl 0, []) else none
      else
       bif Nat.beq pc 0 then some (.aload_n 0, 1, [], .inl 0, []) else none
def kX12_named (pc : Nat) : Option Ent := bif Nat.ble 53 pc then none else
 bif Nat.ble 27 pc then
  bif Nat.ble 37 pc then
   bif Nat.ble 45 pc then
    bif Nat.ble 50 pc then
     bif Nat.ble 52 pc then
      bif Nat.beq pc 52 then some (.ireturn, 1, [], .inl 0, []) else none
     else
      bif Nat.beq pc 50 then some (.iload 5, 2, [], .inl 0, []) else none
    else
     bif Nat.ble 47 pc then
      bif Nat.beq pc 47 then some (.goto 5, 3, [], .inl 0, []) else none
     else
      bif Nat.beq pc 45 then some (.bipush (-18), 2, [], .inl (-18), []) else none
   else
    bif Nat.ble 41 pc then
     bif Nat.ble 42 pc then
      bif Nat.beq pc 42 then some (.if_icmp .ne 8, 3, [], .inl 0, []) else none
     else
      bif Nat.beq pc 41 then some (.iconst (-1), 1, [], .inl (-1), []) else none
    else
     bif Nat.ble 39 pc then
      bif Nat.beq pc 39 then some (.iload 5, 2, [], .inl 0, []) else none
     else
      bif Nat.beq pc 37 then some (.istore 5, 2, [], .inl 0, []) else none
  else
   bif Nat.ble 31 pc then
    bif Nat.ble 33 pc then
     bif Nat.ble 34 pc then
      bif Nat.beq pc 34 then some (.invokevirtual 196, 3, [165, 3, 1, 5, 12], .inl 0, []) else none
     else
      bif Nat.beq pc 33 then some (.lload_n 2, 1, [], .inl 0, []) else none
    else
     bif Nat.ble 32 pc then
      bif Nat.beq pc 32 then some (.iload_n 1, 1, [], .inl 0, []) else none
     else
      bif Nat.beq pc 31 then some (.aload_n 0, 1, [], .inl 0, []) else none
   else
    bif Nat.ble 29 pc then
     bif Nat.ble 30 pc then
      bif Nat.beq pc 30 then some (.ireturn, 1, [], .inl 0, []) else none
     else
      bif Nat.beq pc 29 then some (.isub, 1, [], .inl 0, []) else none
    else
     bif Nat.beq pc 27 then some (.iload 4, 2, [], .inl 0, []) else none
 else
  bif Nat.ble 11 pc then
   bif Nat.ble 18 pc then
    bif Nat.ble 22 pc then
     bif Nat.ble 25 pc then
      bif Nat.beq pc 25 then some (.bipush (-10), 2, [], .inl (-10), []) else none
     else
      bif Nat.beq pc 22 then some (.ifCond .eq 9, 3, [], .inl 0, []) else none
    else
     bif Nat.ble 20 pc then
      bif Nat.beq pc 20 then some (.iload 4, 2, [], .inl 0, []) else none
     else
      bif Nat.beq pc 18 then some (.istore 4, 2, [], .inl 0, []) else none
   else
    bif Nat.ble 14 pc then
     bif Nat.ble 15 pc then
      bif Nat.beq pc 15 then some (.invokevirtual 290, 3, [187, 2, 1, 2, 12], .inl 0, []) else none
     else
      bif Nat.beq pc 14 then some (.iadd, 1, [], .inl 0, []) else none
    else
     bif Nat.ble 13 pc then
      bif Nat.beq pc 13 then some (.iload_n 1, 1, [], .inl 0, []) else none
     else
      bif Nat.beq pc 11 then some (.bipush 10, 2, [], .inl (10), []) else none
  else
   bif Nat.ble 5 pc then
    bif Nat.ble 9 pc then
     bif Nat.ble 10 pc then
      bif Nat.beq pc 10 then some (.aload_n 0, 1, [], .inl 0, []) else none
     else
      bif Nat.beq pc 9 then some (.ireturn, 1, [], .inl 0, []) else none
    else
     bif Nat.ble 8 pc then
      bif Nat.beq pc 8 then some (.iconst (-1), 1, [], .inl (-1), []) else none
     else
      bif Nat.beq pc 5 then some (.ifCond .ne 5, 3, [], .inl 0, []) else none
   else
    bif Nat.ble 1 pc then
     bif Nat.ble 2 pc then
      bif Nat.beq pc 2 then some (.invokevirtual 176, 3, [159, 2, 1, 2, 12], .inl 0, []) else none
     else
      bif Nat.beq pc 1 then some (.iload_n 1, 1, [], .inl 0, []) else none
    else
     bif Nat.beq pc 0 then some (.aload_n 0, 1, [], .inl 0, []) else none
def kX12_once (pc : Nat) : Option Ent := bif Nat.ble 28 pc then none else
 bif Nat.ble 15 pc then
  bif Nat.ble 20 pc then
   bif Nat.ble 25 pc then
    bif Nat.ble 26 pc then
     bif Nat.ble 27 pc then
      bif Nat.beq pc 27 then some (.ireturn, 1, [], .inl 0, []) else none
     else
      bif Nat.beq pc 26 then some (.iadd, 1, [], .inl 0, []) else none
    else
     bif Nat.beq pc 25 then some (.iload_n 2, 1, [], .inl 0, []) else none
   else
    bif Nat.ble 21 pc then
     bif Nat.ble 24 pc then
      bif Nat.beq pc 24 then some (.iload_n 3, 1, [], .inl 0, []) else none
     else
      bif Nat.beq pc 21 then some (.goto 6, 3, [], .inl 0, []) else none
    else
     bif Nat.beq pc 20 then some (.isub, 1, [], .inl 0, []) else none
  else
   bif Nat.ble 17 pc then
    bif Nat.ble 18 pc then
     bif Nat.ble 19 pc then
      bif Nat.beq pc 19 then some (.iconst 1, 1, [], .inl (1), []) else none
     else
      bif Nat.beq pc 18 then some (.imul, 1, [], .inl 0, []) else none
    else
     bif Nat.beq pc 17 then some (.iadd, 1, [], .inl 0, []) else none
   else
    bif Nat.ble 16 pc then
     bif Nat.beq pc 16 then some (.iload_n 2, 1, [], .inl 0, []) else none
    else
     bif Nat.beq pc 15 then some (.iload_n 3, 1, [], .inl 0, []) else none
 else
  bif Nat.ble 8 pc then
   bif Nat.ble 10 pc then
    bif Nat.ble 11 pc then
     bif Nat.ble 14 pc then
      bif Nat.beq pc 14 then some (.iconst 3, 1, [], .inl (3), []) else none
     else
      bif Nat.beq pc 11 then some (.ifCond .eq 13, 3, [], .inl 0, []) else none
    else
     bif Nat.beq pc 10 then some (.baload, 1, [], .inl 0, []) else none
   else
    bif Nat.ble 9 pc then
     bif Nat.beq pc 9 then some (.iadd, 1, [], .inl 0, []) else none
    else
     bif Nat.beq pc 8 then some (.iload_n 2, 1, [], .inl 0, []) else none
  else
   bif Nat.ble 4 pc then
    bif Nat.ble 6 pc then
     bif Nat.ble 7 pc then
      bif Nat.beq pc 7 then some (.imul, 1, [], .inl 0, []) else none
     else
      bif Nat.beq pc 6 then some (.iload_n 1, 1, [], .inl 0, []) else none
    else
     bif Nat.beq pc 4 then some (.bipush 8, 2, [], .inl (8), []) else none
   else
    bif Nat.ble 1 pc then
     bif Nat.beq pc 1 then some (.getfield 17, 3, [12, 771, 2], .inl 0, []) else none
    else
     bif Nat.beq pc 0 then some (.aload_n 0, 1, [], .inl 0, []) else none
def kX12_work (pc : Nat) : Option Ent := bif Nat.ble 131 pc then none else
 bif Nat.ble 64 pc then
  bif Nat.ble 95 pc then
   bif Nat.ble 116 pc then
    bif Nat.ble 123 pc then
     bif Nat.ble 126 pc then
      bif Nat.ble 129 pc then
       bif Nat.ble 130 pc then
        bif Nat.beq pc 130 then some (.lreturn, 1, [], .inl 0, []) else none
       else
        bif Nat.beq pc 129 then some (.i2l, 1, [], .inl 0, []) else none
      else
       bif Nat.beq pc 126 then some (.invokevirtual 333, 3, [210, 4, 1, 4, 12], .inl 0, []) else none
     else
      bif Nat.ble 124 pc then
       bif Nat.beq pc 124 then some (.iload 6, 2, [], .inl 0, []) else none
      else
       bif Nat.beq pc 123 then some (.iload_n 2, 1, [], .inl 0, []) else none
    else
     bif Nat.ble 118 pc then
      bif Nat.ble 121 pc then
       bif Nat.ble 122 pc then
        bif Nat.beq pc 122 then some (.iload_n 1, 1, [], .inl 0, []) else none
       else
        bif Nat.beq pc 121 then some (.aload_n 0, 1, [], .inl 0, []) else none
      else
       bif Nat.beq pc 118 then some (.goto 12, 3, [], .inl 0, []) else none
     else
      bif Nat.ble 117 pc then
       bif Nat.beq pc 117 then some (.i2l, 1, [], .inl 0, []) else none
      else
       bif Nat.beq pc 116 then some (.isub, 1, [], .inl 0, []) else none
   else
    bif Nat.ble 104 pc then
     bif Nat.ble 109 pc then
      bif Nat.ble 112 pc then
       bif Nat.ble 114 pc then
        bif Nat.beq pc 114 then some (.iload 6, 2, [], .inl 0, []) else none
       else
        bif Nat.beq pc 112 then some (.iload 4, 2, [], .inl 0, []) else none
      else
       bif Nat.beq pc 109 then some (.ifCond .eq 12, 3, [], .inl 0, []) else none
     else
      bif Nat.ble 107 pc then
       bif Nat.beq pc 107 then some (.iload 7, 2, [], .inl 0, []) else none
      else
       bif Nat.beq pc 104 then some (.goto 26, 3, [], .inl 0, []) else none
    else
     bif Nat.ble 98 pc then
      bif Nat.ble 101 pc then
       bif Nat.ble 103 pc then
        bif Nat.beq pc 103 then some (.i2l, 1, [], .inl 0, []) else none
       else
        bif Nat.beq pc 101 then some (.iload 6, 2, [], .inl 0, []) else none
      else
       bif Nat.beq pc 98 then some (.ifCond .ne 9, 3, [], .inl 0, []) else none
     else
      bif Nat.ble 97 pc then
       bif Nat.beq pc 97 then some (.iload_n 3, 1, [], .inl 0, []) else none
      else
       bif Nat.beq pc 95 then some (.istore 7, 2, [], .inl 0, []) else none
  else
   bif Nat.ble 79 pc then
    bif Nat.ble 86 pc then
     bif Nat.ble 90 pc then
      bif Nat.ble 91 pc then
       bif Nat.ble 94 pc then
        bif Nat.beq pc 94 then some (.iconst 0, 1, [], .inl (0), []) else none
       else
        bif Nat.beq pc 91 then some (.goto 4, 3, [], .inl 0, []) else none
      else
       bif Nat.beq pc 90 then some (.iconst 1, 1, [], .inl (1), []) else none
     else
      bif Nat.ble 87 pc then
       bif Nat.beq pc 87 then some (.if_icmp .ne 7, 3, [], .inl 0, []) else none
      else
       bif Nat.beq pc 86 then some (.iconst 1, 1, [], .inl (1), []) else none
    else
     bif Nat.ble 83 pc then
      bif Nat.ble 84 pc then
       bif Nat.ble 85 pc then
        bif Nat.beq pc 85 then some (.irem, 1, [], .inl 0, []) else none
       else
        bif Nat.beq pc 84 then some (.iconst 2, 1, [], .inl (2), []) else none
      else
       bif Nat.beq pc 83 then some (.iload_n 2, 1, [], .inl 0, []) else none
     else
      bif Nat.ble 80 pc then
       bif Nat.beq pc 80 then some (.ifCond .eq 14, 3, [], .inl 0, []) else none
      else
       bif Nat.beq pc 79 then some (.baload, 1, [], .inl 0, []) else none
   else
    bif Nat.ble 73 pc then
     bif Nat.ble 76 pc then
      bif Nat.ble 77 pc then
       bif Nat.ble 78 pc then
        bif Nat.beq pc 78 then some (.iadd, 1, [], .inl 0, []) else none
       else
        bif Nat.beq pc 77 then some (.iload_n 2, 1, [], .inl 0, []) else none
      else
       bif Nat.beq pc 76 then some (.imul, 1, [], .inl 0, []) else none
     else
      bif Nat.ble 75 pc then
       bif Nat.beq pc 75 then some (.iload_n 1, 1, [], .inl 0, []) else none
      else
       bif Nat.beq pc 73 then some (.bipush 8, 2, [], .inl (8), []) else none
    else
     bif Nat.ble 69 pc then
      bif Nat.ble 70 pc then
       bif Nat.beq pc 70 then some (.getfield 17, 3, [12, 771, 2], .inl 0, []) else none
      else
       bif Nat.beq pc 69 then some (.aload_n 0, 1, [], .inl 0, []) else none
     else
      bif Nat.ble 67 pc then
       bif Nat.beq pc 67 then some (.istore 6, 2, [], .inl 0, []) else none
      else
       bif Nat.beq pc 64 then some (.invokevirtual 333, 3, [210, 4, 1, 4, 12], .inl 0, []) else none
 else
  bif Nat.ble 35 pc then
   bif Nat.ble 50 pc then
    bif Nat.ble 58 pc then
     bif Nat.ble 60 pc then
      bif Nat.ble 61 pc then
       bif Nat.ble 62 pc then
        bif Nat.beq pc 62 then some (.iload 4, 2, [], .inl 0, []) else none
       else
        bif Nat.beq pc 61 then some (.iload_n 2, 1, [], .inl 0, []) else none
      else
       bif Nat.beq pc 60 then some (.iload_n 1, 1, [], .inl 0, []) else none
     else
      bif Nat.ble 59 pc then
       bif Nat.beq pc 59 then some (.aload_n 0, 1, [], .inl 0, []) else none
      else
       bif Nat.beq pc 58 then some (.lreturn, 1, [], .inl 0, []) else none
    else
     bif Nat.ble 55 pc then
      bif Nat.ble 56 pc then
       bif Nat.ble 57 pc then
        bif Nat.beq pc 57 then some (.i2l, 1, [], .inl 0, []) else none
       else
        bif Nat.beq pc 56 then some (.iadd, 1, [], .inl 0, []) else none
      else
       bif Nat.beq pc 55 then some (.iload_n 2, 1, [], .inl 0, []) else none
     else
      bif Nat.ble 53 pc then
       bif Nat.beq pc 53 then some (.iload 4, 2, [], .inl 0, []) else none
      else
       bif Nat.beq pc 50 then some (.if_icmp .ne 9, 3, [], .inl 0, []) else none
   else
    bif Nat.ble 45 pc then
     bif Nat.ble 47 pc then
      bif Nat.ble 48 pc then
       bif Nat.ble 49 pc then
        bif Nat.beq pc 49 then some (.iconst 2, 1, [], .inl (2), []) else none
       else
        bif Nat.beq pc 48 then some (.iload_n 3, 1, [], .inl 0, []) else none
      else
       bif Nat.beq pc 47 then some (.lreturn, 1, [], .inl 0, []) else none
     else
      bif Nat.ble 46 pc then
       bif Nat.beq pc 46 then some (.ladd, 1, [], .inl 0, []) else none
      else
       bif Nat.beq pc 45 then some (.i2l, 1, [], .inl 0, []) else none
    else
     bif Nat.ble 40 pc then
      bif Nat.ble 43 pc then
       bif Nat.beq pc 43 then some (.iload 5, 2, [], .inl 0, []) else none
      else
       bif Nat.beq pc 40 then some (.ldc2_w 326, 3, [], .inr (.inl (-9223372036854775808)), []) else none
     else
      bif Nat.ble 37 pc then
       bif Nat.beq pc 37 then some (.ifCond .eq 11, 3, [], .inl 0, []) else none
      else
       bif Nat.beq pc 35 then some (.iload 5, 2, [], .inl 0, []) else none
  else
   bif Nat.ble 15 pc then
    bif Nat.ble 26 pc then
     bif Nat.ble 29 pc then
      bif Nat.ble 30 pc then
       bif Nat.ble 33 pc then
        bif Nat.beq pc 33 then some (.istore 5, 2, [], .inl 0, []) else none
       else
        bif Nat.beq pc 30 then some (.invokevirtual 290, 3, [187, 2, 1, 2, 12], .inl 0, []) else none
      else
       bif Nat.beq pc 29 then some (.iadd, 1, [], .inl 0, []) else none
     else
      bif Nat.ble 28 pc then
       bif Nat.beq pc 28 then some (.iload_n 1, 1, [], .inl 0, []) else none
      else
       bif Nat.beq pc 26 then some (.bipush 10, 2, [], .inl (10), []) else none
    else
     bif Nat.ble 21 pc then
      bif Nat.ble 24 pc then
       bif Nat.ble 25 pc then
        bif Nat.beq pc 25 then some (.aload_n 0, 1, [], .inl 0, []) else none
       else
        bif Nat.beq pc 24 then some (.lreturn, 1, [], .inl 0, []) else none
      else
       bif Nat.beq pc 21 then some (.ldc2_w 326, 3, [], .inr (.inl (-9223372036854775808)), []) else none
     else
      bif Nat.ble 18 pc then
       bif Nat.beq pc 18 then some (.ifCond .ne 7, 3, [], .inl 0, []) else none
      else
       bif Nat.beq pc 15 then some (.invokestatic 169, 3, [157, 3, 1, 6, 100], .inl 0, []) else none
   else
    bif Nat.ble 6 pc then
     bif Nat.ble 10 pc then
      bif Nat.ble 11 pc then
       bif Nat.ble 12 pc then
        bif Nat.beq pc 12 then some (.ldc2_w 331, 3, [], .inr (.inl (2)), []) else none
       else
        bif Nat.beq pc 11 then some (.lconst 0, 1, [], .inr (.inl (0)), []) else none
      else
       bif Nat.beq pc 10 then some (.i2l, 1, [], .inl 0, []) else none
     else
      bif Nat.ble 9 pc then
       bif Nat.beq pc 9 then some (.iload_n 3, 1, [], .inl 0, []) else none
      else
       bif Nat.beq pc 6 then some (.ifCond .eq 15, 3, [], .inl 0, []) else none
    else
     bif Nat.ble 2 pc then
      bif Nat.ble 3 pc then
       bif Nat.beq pc 3 then some (.invokevirtual 200, 3, [160, 3, 1, 3, 12], .inl 0, []) else none
      else
       bif Nat.beq pc 2 then some (.iload_n 2, 1, [], .inl 0, []) else none
     else
      bif Nat.ble 1 pc then
       bif Nat.beq pc 1 then some (.iload_n 1, 1, [], .inl 0, []) else none
      else
       bif Nat.beq pc 0 then some (.aload_n 0, 1, [], .inl 0, []) else none
def kX12_unkept (pc : Nat) : Option Ent := bif Nat.ble 144 pc then none else
 bif Nat.ble 72 pc then
  bif Nat.ble 105 pc then
   bif Nat.ble 122 pc then
    bif Nat.ble 130 pc then
     bif Nat.ble 139 pc then
      bif Nat.ble 142 pc then
       bif Nat.ble 143 pc then
        bif Nat.beq pc 143 then some (.ireturn, 1, [], .inl 0, []) else none
       else
        bif Nat.beq pc 142 then some (.iload_n 2, 1, [], .inl 0, []) else none
      else
       bif Nat.beq pc 139 then some (.goto (-106), 3, [], .inl 0, []) else none
     else
      bif Nat.ble 133 pc then
       bif Nat.ble 136 pc then
        bif Nat.beq pc 136 then some (.iinc 3 (-1), 3, [], .inl (-1), []) else none
       else
        bif Nat.beq pc 133 then some (.goto (-71), 3, [], .inl 0, []) else none
      else
       bif Nat.beq pc 130 then some (.iinc 4 1, 3, [], .inl (1), []) else none
    else
     bif Nat.ble 127 pc then
      bif Nat.ble 128 pc then
       bif Nat.ble 129 pc then
        bif Nat.beq pc 129 then some (.bastore, 1, [], .inl 0, []) else none
       else
        bif Nat.beq pc 128 then some (.iconst 1, 1, [], .inl (1), []) else none
      else
       bif Nat.beq pc 127 then some (.l2i, 1, [], .inl 0, []) else none
     else
      bif Nat.ble 125 pc then
       bif Nat.beq pc 125 then some (.lload 5, 2, [], .inl 0, []) else none
      else
       bif Nat.beq pc 122 then some (.getfield 154, 3, [12, 827, 2], .inl 0, []) else none
   else
    bif Nat.ble 114 pc then
     bif Nat.ble 117 pc then
      bif Nat.ble 118 pc then
       bif Nat.ble 121 pc then
        bif Nat.beq pc 121 then some (.aload_n 0, 1, [], .inl 0, []) else none
       else
        bif Nat.beq pc 118 then some (.ifCond .lt 12, 3, [], .inl 0, []) else none
      else
       bif Nat.beq pc 117 then some (.lcmp, 1, [], .inl 0, []) else none
     else
      bif Nat.ble 116 pc then
       bif Nat.beq pc 116 then some (.lconst 0, 1, [], .inr (.inl (0)), []) else none
      else
       bif Nat.beq pc 114 then some (.lload 5, 2, [], .inl 0, []) else none
    else
     bif Nat.ble 108 pc then
      bif Nat.ble 109 pc then
       bif Nat.ble 111 pc then
        bif Nat.beq pc 111 then some (.if_icmp .ne 19, 3, [], .inl 0, []) else none
       else
        bif Nat.beq pc 109 then some (.bipush 11, 2, [], .inl (11), []) else none
      else
       bif Nat.beq pc 108 then some (.iaload, 1, [], .inl 0, []) else none
     else
      bif Nat.ble 107 pc then
       bif Nat.beq pc 107 then some (.iadd, 1, [], .inl 0, []) else none
      else
       bif Nat.beq pc 105 then some (.iload 4, 2, [], .inl 0, []) else none
  else
   bif Nat.ble 88 pc then
    bif Nat.ble 96 pc then
     bif Nat.ble 102 pc then
      bif Nat.ble 103 pc then
       bif Nat.ble 104 pc then
        bif Nat.beq pc 104 then some (.imul, 1, [], .inl 0, []) else none
       else
        bif Nat.beq pc 103 then some (.iaload, 1, [], .inl 0, []) else none
      else
       bif Nat.beq pc 102 then some (.iload_n 3, 1, [], .inl 0, []) else none
     else
      bif Nat.ble 98 pc then
       bif Nat.ble 99 pc then
        bif Nat.beq pc 99 then some (.getfield 84, 3, [12, 802, 2], .inl 0, []) else none
       else
        bif Nat.beq pc 98 then some (.aload_n 0, 1, [], .inl 0, []) else none
      else
       bif Nat.beq pc 96 then some (.bipush 6, 2, [], .inl (6), []) else none
    else
     bif Nat.ble 90 pc then
      bif Nat.ble 92 pc then
       bif Nat.ble 93 pc then
        bif Nat.beq pc 93 then some (.getfield 30, 3, [12, 776, 2], .inl 0, []) else none
       else
        bif Nat.beq pc 92 then some (.aload_n 0, 1, [], .inl 0, []) else none
      else
       bif Nat.beq pc 90 then some (.lstore 5, 2, [], .inl 0, []) else none
     else
      bif Nat.ble 89 pc then
       bif Nat.beq pc 89 then some (.laload, 1, [], .inl 0, []) else none
      else
       bif Nat.beq pc 88 then some (.iadd, 1, [], .inl 0, []) else none
   else
    bif Nat.ble 79 pc then
     bif Nat.ble 84 pc then
      bif Nat.ble 85 pc then
       bif Nat.ble 86 pc then
        bif Nat.beq pc 86 then some (.iload 4, 2, [], .inl 0, []) else none
       else
        bif Nat.beq pc 85 then some (.imul, 1, [], .inl 0, []) else none
      else
       bif Nat.beq pc 84 then some (.iload_n 3, 1, [], .inl 0, []) else none
     else
      bif Nat.ble 82 pc then
       bif Nat.beq pc 82 then some (.bipush 6, 2, [], .inl (6), []) else none
      else
       bif Nat.beq pc 79 then some (.getfield 87, 3, [12, 803, 2], .inl 0, []) else none
    else
     bif Nat.ble 74 pc then
      bif Nat.ble 75 pc then
       bif Nat.ble 78 pc then
        bif Nat.beq pc 78 then some (.aload_n 0, 1, [], .inl 0, []) else none
       else
        bif Nat.beq pc 75 then some (.if_icmp .ge 61, 3, [], .inl 0, []) else none
      else
       bif Nat.beq pc 74 then some (.iaload, 1, [], .inl 0, []) else none
     else
      bif Nat.ble 73 pc then
       bif Nat.beq pc 73 then some (.iaload, 1, [], .inl 0, []) else none
      else
       bif Nat.beq pc 72 then some (.iload_n 3, 1, [], .inl 0, []) else none
 else
  bif Nat.ble 33 pc then
   bif Nat.ble 51 pc then
    bif Nat.ble 60 pc then
     bif Nat.ble 65 pc then
      bif Nat.ble 68 pc then
       bif Nat.ble 69 pc then
        bif Nat.beq pc 69 then some (.getfield 84, 3, [12, 802, 2], .inl 0, []) else none
       else
        bif Nat.beq pc 68 then some (.aload_n 0, 1, [], .inl 0, []) else none
      else
       bif Nat.beq pc 65 then some (.getfield 24, 3, [12, 774, 2], .inl 0, []) else none
     else
      bif Nat.ble 62 pc then
       bif Nat.ble 64 pc then
        bif Nat.beq pc 64 then some (.aload_n 0, 1, [], .inl 0, []) else none
       else
        bif Nat.beq pc 62 then some (.iload 4, 2, [], .inl 0, [1, 5, 6]) else none
      else
       bif Nat.beq pc 60 then some (.istore 4, 2, [], .inl 0, []) else none
    else
     bif Nat.ble 53 pc then
      bif Nat.ble 56 pc then
       bif Nat.ble 59 pc then
        bif Nat.beq pc 59 then some (.iconst 0, 1, [], .inl (0), []) else none
       else
        bif Nat.beq pc 56 then some (.iinc 2 1, 3, [], .inl (1), []) else none
      else
       bif Nat.beq pc 53 then some (.if_icmp .ne 83, 3, [], .inl 0, []) else none
     else
      bif Nat.ble 52 pc then
       bif Nat.beq pc 52 then some (.iconst (-1), 1, [], .inl (-1), []) else none
      else
       bif Nat.beq pc 51 then some (.iaload, 1, [], .inl 0, []) else none
   else
    bif Nat.ble 42 pc then
     bif Nat.ble 46 pc then
      bif Nat.ble 47 pc then
       bif Nat.ble 50 pc then
        bif Nat.beq pc 50 then some (.iload_n 3, 1, [], .inl 0, []) else none
       else
        bif Nat.beq pc 47 then some (.getfield 90, 3, [12, 804, 2], .inl 0, []) else none
      else
       bif Nat.beq pc 46 then some (.aload_n 0, 1, [], .inl 0, []) else none
     else
      bif Nat.ble 43 pc then
       bif Nat.beq pc 43 then some (.ifCond .eq 93, 3, [], .inl 0, []) else none
      else
       bif Nat.beq pc 42 then some (.baload, 1, [], .inl 0, []) else none
    else
     bif Nat.ble 37 pc then
      bif Nat.ble 38 pc then
       bif Nat.ble 41 pc then
        bif Nat.beq pc 41 then some (.iload_n 3, 1, [], .inl 0, []) else none
       else
        bif Nat.beq pc 38 then some (.getfield 154, 3, [12, 827, 2], .inl 0, []) else none
      else
       bif Nat.beq pc 37 then some (.aload_n 0, 1, [], .inl 0, []) else none
     else
      bif Nat.ble 34 pc then
       bif Nat.beq pc 34 then some (.ifCond .lt 108, 3, [], .inl 0, []) else none
      else
       bif Nat.beq pc 33 then some (.iload_n 3, 1, [], .inl 0, [1, 4, 5, 6]) else none
  else
   bif Nat.ble 14 pc then
    bif Nat.ble 23 pc then
     bif Nat.ble 30 pc then
      bif Nat.ble 31 pc then
       bif Nat.ble 32 pc then
        bif Nat.beq pc 32 then some (.istore_n 3, 1, [], .inl 0, []) else none
       else
        bif Nat.beq pc 31 then some (.iload_n 1, 1, [], .inl 0, []) else none
      else
       bif Nat.beq pc 30 then some (.istore_n 2, 1, [], .inl 0, []) else none
     else
      bif Nat.ble 26 pc then
       bif Nat.ble 29 pc then
        bif Nat.beq pc 29 then some (.iconst 0, 1, [], .inl (0), []) else none
       else
        bif Nat.beq pc 26 then some (.goto (-24), 3, [], .inl 0, []) else none
      else
       bif Nat.beq pc 23 then some (.iinc 2 1, 3, [], .inl (1), []) else none
    else
     bif Nat.ble 18 pc then
      bif Nat.ble 21 pc then
       bif Nat.ble 22 pc then
        bif Nat.beq pc 22 then some (.bastore, 1, [], .inl 0, []) else none
       else
        bif Nat.beq pc 21 then some (.iconst 0, 1, [], .inl (0), []) else none
      else
       bif Nat.beq pc 18 then some (.goto 4, 3, [], .inl 0, []) else none
     else
      bif Nat.ble 17 pc then
       bif Nat.beq pc 17 then some (.iconst 1, 1, [], .inl (1), []) else none
      else
       bif Nat.beq pc 14 then some (.if_icmp .ne 7, 3, [], .inl 0, []) else none
   else
    bif Nat.ble 7 pc then
     bif Nat.ble 11 pc then
      bif Nat.ble 12 pc then
       bif Nat.ble 13 pc then
        bif Nat.beq pc 13 then some (.iload_n 1, 1, [], .inl 0, []) else none
       else
        bif Nat.beq pc 12 then some (.iload_n 2, 1, [], .inl 0, []) else none
      else
       bif Nat.beq pc 11 then some (.iload_n 2, 1, [], .inl 0, []) else none
     else
      bif Nat.ble 8 pc then
       bif Nat.beq pc 8 then some (.getfield 154, 3, [12, 827, 2], .inl 0, []) else none
      else
       bif Nat.beq pc 7 then some (.aload_n 0, 1, [], .inl 0, []) else none
    else
     bif Nat.ble 2 pc then
      bif Nat.ble 3 pc then
       bif Nat.ble 4 pc then
        bif Nat.beq pc 4 then some (.if_icmp .gt 25, 3, [], .inl 0, []) else none
       else
        bif Nat.beq pc 3 then some (.iload_n 1, 1, [], .inl 0, []) else none
      else
       bif Nat.beq pc 2 then some (.iload_n 2, 1, [], .inl 0, [3, 4, 5, 6]) else none
     else
      bif Nat.ble 1 pc then
       bif Nat.beq pc 1 then some (.istore_n 2, 1, [], .inl 0, []) else none
      else
       bif Nat.beq pc 0 then some (.iconst 0, 1, [], .inl (0), []) else none
def kX12_keep (pc : Nat) : Option Ent := bif Nat.ble 208 pc then none else
 bif Nat.ble 101 pc then
  bif Nat.ble 153 pc then
   bif Nat.ble 180 pc then
    bif Nat.ble 193 pc then
     bif Nat.ble 201 pc then
      bif Nat.ble 205 pc then
       bif Nat.ble 206 pc then
        bif Nat.ble 207 pc then
         bif Nat.beq pc 207 then some (.ireturn, 1, [], .inl 0, []) else none
        else
         bif Nat.beq pc 206 then some (.iaload, 1, [], .inl 0, []) else none
       else
        bif Nat.beq pc 205 then some (.iload_n 1, 1, [], .inl 0, []) else none
      else
       bif Nat.ble 202 pc then
        bif Nat.beq pc 202 then some (.getfield 90, 3, [12, 804, 2], .inl 0, []) else none
       else
        bif Nat.beq pc 201 then some (.aload_n 0, 1, [], .inl 0, []) else none
     else
      bif Nat.ble 195 pc then
       bif Nat.ble 198 pc then
        bif Nat.beq pc 198 then some (.goto (-136), 3, [], .inl 0, []) else none
       else
        bif Nat.beq pc 195 then some (.iinc 2 1, 3, [], .inl (1), []) else none
      else
       bif Nat.ble 194 pc then
        bif Nat.beq pc 194 then some (.iastore, 1, [], .inl 0, []) else none
       else
        bif Nat.beq pc 193 then some (.iconst 0, 1, [], .inl (0), []) else none
    else
     bif Nat.ble 187 pc then
      bif Nat.ble 189 pc then
       bif Nat.ble 192 pc then
        bif Nat.beq pc 192 then some (.iload_n 2, 1, [], .inl 0, []) else none
       else
        bif Nat.beq pc 189 then some (.getfield 151, 3, [12, 826, 2], .inl 0, []) else none
      else
       bif Nat.ble 188 pc then
        bif Nat.beq pc 188 then some (.aload_n 0, 1, [], .inl 0, []) else none
       else
        bif Nat.beq pc 187 then some (.iastore, 1, [], .inl 0, []) else none
     else
      bif Nat.ble 184 pc then
       bif Nat.ble 186 pc then
        bif Nat.beq pc 186 then some (.l2i, 1, [], .inl 0, []) else none
       else
        bif Nat.beq pc 184 then some (.lload 6, 2, [], .inl 0, []) else none
      else
       bif Nat.ble 183 pc then
        bif Nat.beq pc 183 then some (.iload_n 2, 1, [], .inl 0, []) else none
       else
        bif Nat.beq pc 180 then some (.getfield 148, 3, [12, 825, 2], .inl 0, []) else none
   else
    bif Nat.ble 167 pc then
     bif Nat.ble 174 pc then
      bif Nat.ble 176 pc then
       bif Nat.ble 179 pc then
        bif Nat.beq pc 179 then some (.aload_n 0, 1, [], .inl 0, []) else none
       else
        bif Nat.beq pc 176 then some (.if_icmp .ne 22, 3, [], .inl 0, []) else none
      else
       bif Nat.ble 175 pc then
        bif Nat.beq pc 175 then some (.iconst (-1), 1, [], .inl (-1), []) else none
       else
        bif Nat.beq pc 174 then some (.iaload, 1, [], .inl 0, []) else none
     else
      bif Nat.ble 171 pc then
       bif Nat.ble 173 pc then
        bif Nat.beq pc 173 then some (.l2i, 1, [], .inl 0, []) else none
       else
        bif Nat.beq pc 171 then some (.lload 6, 2, [], .inl 0, []) else none
      else
       bif Nat.ble 168 pc then
        bif Nat.beq pc 168 then some (.getfield 90, 3, [12, 804, 2], .inl 0, []) else none
       else
        bif Nat.beq pc 167 then some (.aload_n 0, 1, [], .inl 0, []) else none
    else
     bif Nat.ble 160 pc then
      bif Nat.ble 163 pc then
       bif Nat.ble 164 pc then
        bif Nat.beq pc 164 then some (.ifCond .lt 34, 3, [], .inl 0, []) else none
       else
        bif Nat.beq pc 163 then some (.lcmp, 1, [], .inl 0, []) else none
      else
       bif Nat.ble 162 pc then
        bif Nat.beq pc 162 then some (.lconst 0, 1, [], .inr (.inl (0)), []) else none
       else
        bif Nat.beq pc 160 then some (.lload 6, 2, [], .inl 0, []) else none
     else
      bif Nat.ble 155 pc then
       bif Nat.ble 157 pc then
        bif Nat.beq pc 157 then some (.if_icmp .ne 41, 3, [], .inl 0, []) else none
       else
        bif Nat.beq pc 155 then some (.bipush 11, 2, [], .inl (11), []) else none
      else
       bif Nat.ble 154 pc then
        bif Nat.beq pc 154 then some (.iaload, 1, [], .inl 0, []) else none
       else
        bif Nat.beq pc 153 then some (.iadd, 1, [], .inl 0, []) else none
  else
   bif Nat.ble 127 pc then
    bif Nat.ble 139 pc then
     bif Nat.ble 146 pc then
      bif Nat.ble 150 pc then
       bif Nat.ble 151 pc then
        bif Nat.beq pc 151 then some (.iload 4, 2, [], .inl 0, []) else none
       else
        bif Nat.beq pc 150 then some (.imul, 1, [], .inl 0, []) else none
      else
       bif Nat.ble 148 pc then
        bif Nat.beq pc 148 then some (.iload 5, 2, [], .inl 0, []) else none
       else
        bif Nat.beq pc 146 then some (.bipush 6, 2, [], .inl (6), []) else none
     else
      bif Nat.ble 142 pc then
       bif Nat.ble 143 pc then
        bif Nat.beq pc 143 then some (.getfield 30, 3, [12, 776, 2], .inl 0, []) else none
       else
        bif Nat.beq pc 142 then some (.aload_n 0, 1, [], .inl 0, []) else none
      else
       bif Nat.ble 140 pc then
        bif Nat.beq pc 140 then some (.lstore 6, 2, [], .inl 0, []) else none
       else
        bif Nat.beq pc 139 then some (.laload, 1, [], .inl 0, []) else none
    else
     bif Nat.ble 134 pc then
      bif Nat.ble 136 pc then
       bif Nat.ble 138 pc then
        bif Nat.beq pc 138 then some (.iadd, 1, [], .inl 0, []) else none
       else
        bif Nat.beq pc 136 then some (.iload 4, 2, [], .inl 0, []) else none
      else
       bif Nat.ble 135 pc then
        bif Nat.beq pc 135 then some (.imul, 1, [], .inl 0, []) else none
       else
        bif Nat.beq pc 134 then some (.iload_n 3, 1, [], .inl 0, []) else none
     else
      bif Nat.ble 129 pc then
       bif Nat.ble 132 pc then
        bif Nat.beq pc 132 then some (.bipush 6, 2, [], .inl (6), []) else none
       else
        bif Nat.beq pc 129 then some (.getfield 87, 3, [12, 803, 2], .inl 0, []) else none
      else
       bif Nat.ble 128 pc then
        bif Nat.beq pc 128 then some (.aload_n 0, 1, [], .inl 0, []) else none
       else
        bif Nat.beq pc 127 then some (.iastore, 1, [], .inl 0, []) else none
   else
    bif Nat.ble 117 pc then
     bif Nat.ble 123 pc then
      bif Nat.ble 125 pc then
       bif Nat.ble 126 pc then
        bif Nat.beq pc 126 then some (.iadd, 1, [], .inl 0, []) else none
       else
        bif Nat.beq pc 125 then some (.iconst 1, 1, [], .inl (1), []) else none
      else
       bif Nat.ble 124 pc then
        bif Nat.beq pc 124 then some (.iaload, 1, [], .inl 0, []) else none
       else
        bif Nat.beq pc 123 then some (.dup2, 1, [], .inl 0, []) else none
     else
      bif Nat.ble 121 pc then
       bif Nat.ble 122 pc then
        bif Nat.beq pc 122 then some (.isub, 1, [], .inl 0, []) else none
       else
        bif Nat.beq pc 121 then some (.iconst 1, 1, [], .inl (1), []) else none
      else
       bif Nat.ble 120 pc then
        bif Nat.beq pc 120 then some (.iload_n 2, 1, [], .inl 0, []) else none
       else
        bif Nat.beq pc 117 then some (.getfield 151, 3, [12, 826, 2], .inl 0, []) else none
    else
     bif Nat.ble 107 pc then
      bif Nat.ble 113 pc then
       bif Nat.ble 116 pc then
        bif Nat.beq pc 116 then some (.aload_n 0, 1, [], .inl 0, []) else none
       else
        bif Nat.beq pc 113 then some (.goto 85, 3, [], .inl 0, []) else none
      else
       bif Nat.ble 110 pc then
        bif Nat.beq pc 110 then some (.iinc 2 (-1), 3, [], .inl (-1), []) else none
       else
        bif Nat.beq pc 107 then some (.invokevirtual 343, 3, [214, 2, 0, 6, 12], .inl 0, []) else none
     else
      bif Nat.ble 105 pc then
       bif Nat.ble 106 pc then
        bif Nat.beq pc 106 then some (.iload_n 3, 1, [], .inl 0, []) else none
       else
        bif Nat.beq pc 105 then some (.aload_n 0, 1, [], .inl 0, []) else none
      else
       bif Nat.ble 102 pc then
        bif Nat.beq pc 102 then some (.if_icmp .ne 14, 3, [], .inl 0, []) else none
       else
        bif Nat.beq pc 101 then some (.iaload, 1, [], .inl 0, []) else none
 else
  bif Nat.ble 52 pc then
   bif Nat.ble 74 pc then
    bif Nat.ble 85 pc then
     bif Nat.ble 91 pc then
      bif Nat.ble 95 pc then
       bif Nat.ble 96 pc then
        bif Nat.ble 99 pc then
         bif Nat.beq pc 99 then some (.iload 5, 2, [], .inl 0, []) else none
        else
         bif Nat.beq pc 96 then some (.getfield 24, 3, [12, 774, 2], .inl 0, []) else none
       else
        bif Nat.beq pc 95 then some (.aload_n 0, 1, [], .inl 0, []) else none
      else
       bif Nat.ble 93 pc then
        bif Nat.beq pc 93 then some (.iload 4, 2, [], .inl 0, []) else none
       else
        bif Nat.beq pc 91 then some (.istore 5, 2, [], .inl 0, []) else none
     else
      bif Nat.ble 89 pc then
       bif Nat.ble 90 pc then
        bif Nat.beq pc 90 then some (.iaload, 1, [], .inl 0, []) else none
       else
        bif Nat.beq pc 89 then some (.iload_n 3, 1, [], .inl 0, []) else none
      else
       bif Nat.ble 86 pc then
        bif Nat.beq pc 86 then some (.getfield 84, 3, [12, 802, 2], .inl 0, []) else none
       else
        bif Nat.beq pc 85 then some (.aload_n 0, 1, [], .inl 0, []) else none
    else
     bif Nat.ble 80 pc then
      bif Nat.ble 82 pc then
       bif Nat.ble 83 pc then
        bif Nat.beq pc 83 then some (.istore 4, 2, [], .inl 0, []) else none
       else
        bif Nat.beq pc 82 then some (.iaload, 1, [], .inl 0, []) else none
      else
       bif Nat.ble 81 pc then
        bif Nat.beq pc 81 then some (.isub, 1, [], .inl 0, []) else none
       else
        bif Nat.beq pc 80 then some (.iconst 1, 1, [], .inl (1), []) else none
     else
      bif Nat.ble 76 pc then
       bif Nat.ble 79 pc then
        bif Nat.beq pc 79 then some (.iload_n 2, 1, [], .inl 0, []) else none
       else
        bif Nat.beq pc 76 then some (.getfield 151, 3, [12, 826, 2], .inl 0, []) else none
      else
       bif Nat.ble 75 pc then
        bif Nat.beq pc 75 then some (.aload_n 0, 1, [], .inl 0, []) else none
       else
        bif Nat.beq pc 74 then some (.istore_n 3, 1, [], .inl 0, []) else none
   else
    bif Nat.ble 62 pc then
     bif Nat.ble 70 pc then
      bif Nat.ble 72 pc then
       bif Nat.ble 73 pc then
        bif Nat.beq pc 73 then some (.iaload, 1, [], .inl 0, []) else none
       else
        bif Nat.beq pc 72 then some (.isub, 1, [], .inl 0, []) else none
      else
       bif Nat.ble 71 pc then
        bif Nat.beq pc 71 then some (.iconst 1, 1, [], .inl (1), []) else none
       else
        bif Nat.beq pc 70 then some (.iload_n 2, 1, [], .inl 0, []) else none
     else
      bif Nat.ble 66 pc then
       bif Nat.ble 67 pc then
        bif Nat.beq pc 67 then some (.getfield 148, 3, [12, 825, 2], .inl 0, []) else none
       else
        bif Nat.beq pc 66 then some (.aload_n 0, 1, [], .inl 0, []) else none
      else
       bif Nat.ble 63 pc then
        bif Nat.beq pc 63 then some (.ifCond .le 138, 3, [], .inl 0, []) else none
       else
        bif Nat.beq pc 62 then some (.iload_n 2, 1, [], .inl 0, [3, 4, 5, 6, 7]) else none
    else
     bif Nat.ble 56 pc then
      bif Nat.ble 60 pc then
       bif Nat.ble 61 pc then
        bif Nat.beq pc 61 then some (.iastore, 1, [], .inl 0, []) else none
       else
        bif Nat.beq pc 60 then some (.iconst 0, 1, [], .inl (0), []) else none
      else
       bif Nat.ble 59 pc then
        bif Nat.beq pc 59 then some (.iconst 0, 1, [], .inl (0), []) else none
       else
        bif Nat.beq pc 56 then some (.getfield 151, 3, [12, 826, 2], .inl 0, []) else none
     else
      bif Nat.ble 54 pc then
       bif Nat.ble 55 pc then
        bif Nat.beq pc 55 then some (.aload_n 0, 1, [], .inl 0, []) else none
       else
        bif Nat.beq pc 54 then some (.iastore, 1, [], .inl 0, []) else none
      else
       bif Nat.ble 53 pc then
        bif Nat.beq pc 53 then some (.iload_n 1, 1, [], .inl 0, []) else none
       else
        bif Nat.beq pc 52 then some (.iconst 0, 1, [], .inl (0), []) else none
  else
   bif Nat.ble 26 pc then
    bif Nat.ble 39 pc then
     bif Nat.ble 46 pc then
      bif Nat.ble 48 pc then
       bif Nat.ble 49 pc then
        bif Nat.beq pc 49 then some (.getfield 148, 3, [12, 825, 2], .inl 0, []) else none
       else
        bif Nat.beq pc 48 then some (.aload_n 0, 1, [], .inl 0, []) else none
      else
       bif Nat.ble 47 pc then
        bif Nat.beq pc 47 then some (.istore_n 2, 1, [], .inl 0, []) else none
       else
        bif Nat.beq pc 46 then some (.iconst 1, 1, [], .inl (1), []) else none
     else
      bif Nat.ble 43 pc then
       bif Nat.ble 45 pc then
        bif Nat.beq pc 45 then some (.ireturn, 1, [], .inl 0, []) else none
       else
        bif Nat.beq pc 43 then some (.bipush (-3), 2, [], .inl (-3), []) else none
      else
       bif Nat.ble 40 pc then
        bif Nat.beq pc 40 then some (.if_icmp .le 6, 3, [], .inl 0, []) else none
       else
        bif Nat.beq pc 39 then some (.isub, 1, [], .inl 0, []) else none
    else
     bif Nat.ble 30 pc then
      bif Nat.ble 35 pc then
       bif Nat.ble 36 pc then
        bif Nat.beq pc 36 then some (.getfield 340, 3, [12, 813, 0], .inl 0, []) else none
       else
        bif Nat.beq pc 35 then some (.aload_n 0, 1, [], .inl 0, []) else none
      else
       bif Nat.ble 33 pc then
        bif Nat.beq pc 33 then some (.bipush 64, 2, [], .inl (64), []) else none
       else
        bif Nat.beq pc 30 then some (.invokevirtual 337, 3, [212, 2, 1, 7, 12], .inl 0, []) else none
     else
      bif Nat.ble 28 pc then
       bif Nat.ble 29 pc then
        bif Nat.beq pc 29 then some (.iload_n 1, 1, [], .inl 0, []) else none
       else
        bif Nat.beq pc 28 then some (.aload_n 0, 1, [], .inl 0, []) else none
      else
       bif Nat.ble 27 pc then
        bif Nat.beq pc 27 then some (.ireturn, 1, [], .inl 0, []) else none
       else
        bif Nat.beq pc 26 then some (.iaload, 1, [], .inl 0, []) else none
   else
    bif Nat.ble 12 pc then
     bif Nat.ble 18 pc then
      bif Nat.ble 22 pc then
       bif Nat.ble 25 pc then
        bif Nat.beq pc 25 then some (.iload_n 1, 1, [], .inl 0, []) else none
       else
        bif Nat.beq pc 22 then some (.getfield 90, 3, [12, 804, 2], .inl 0, []) else none
      else
       bif Nat.ble 21 pc then
        bif Nat.beq pc 21 then some (.aload_n 0, 1, [], .inl 0, []) else none
       else
        bif Nat.beq pc 18 then some (.if_icmp .eq 10, 3, [], .inl 0, []) else none
     else
      bif Nat.ble 16 pc then
       bif Nat.ble 17 pc then
        bif Nat.beq pc 17 then some (.iconst (-1), 1, [], .inl (-1), []) else none
       else
        bif Nat.beq pc 16 then some (.iaload, 1, [], .inl 0, []) else none
      else
       bif Nat.ble 15 pc then
        bif Nat.beq pc 15 then some (.iload_n 1, 1, [], .inl 0, []) else none
       else
        bif Nat.beq pc 12 then some (.getfield 90, 3, [12, 804, 2], .inl 0, []) else none
    else
     bif Nat.ble 6 pc then
      bif Nat.ble 10 pc then
       bif Nat.ble 11 pc then
        bif Nat.beq pc 11 then some (.aload_n 0, 1, [], .inl 0, []) else none
       else
        bif Nat.beq pc 10 then some (.ireturn, 1, [], .inl 0, []) else none
      else
       bif Nat.ble 9 pc then
        bif Nat.beq pc 9 then some (.iconst (-1), 1, [], .inl (-1), []) else none
       else
        bif Nat.beq pc 6 then some (.ifCond .ne 5, 3, [], .inl 0, []) else none
     else
      bif Nat.ble 2 pc then
       bif Nat.ble 3 pc then
        bif Nat.beq pc 3 then some (.invokevirtual 281, 3, [196, 2, 1, 3, 12], .inl 0, []) else none
       else
        bif Nat.beq pc 2 then some (.i2l, 1, [], .inl 0, []) else none
      else
       bif Nat.ble 1 pc then
        bif Nat.beq pc 1 then some (.iload_n 1, 1, [], .inl 0, []) else none
       else
        bif Nat.beq pc 0 then some (.aload_n 0, 1, [], .inl 0, []) else none
def kX12_write (pc : Nat) : Option Ent := bif Nat.ble 194 pc then none else
 bif Nat.ble 93 pc then
  bif Nat.ble 144 pc then
   bif Nat.ble 169 pc then
    bif Nat.ble 180 pc then
     bif Nat.ble 188 pc then
      bif Nat.ble 190 pc then
       bif Nat.ble 193 pc then
        bif Nat.beq pc 193 then some (.return_, 1, [], .inl 0, []) else none
       else
        bif Nat.beq pc 190 then some (.putfield 340, 3, [12, 813, 0], .inl 0, []) else none
      else
       bif Nat.ble 189 pc then
        bif Nat.beq pc 189 then some (.iadd, 1, [], .inl 0, []) else none
       else
        bif Nat.beq pc 188 then some (.iconst 1, 1, [], .inl (1), []) else none
     else
      bif Nat.ble 184 pc then
       bif Nat.ble 185 pc then
        bif Nat.beq pc 185 then some (.getfield 340, 3, [12, 813, 0], .inl 0, []) else none
       else
        bif Nat.beq pc 184 then some (.dup, 1, [], .inl 0, []) else none
      else
       bif Nat.ble 183 pc then
        bif Nat.beq pc 183 then some (.aload_n 0, 1, [], .inl 0, []) else none
       else
        bif Nat.beq pc 180 then some (.goto (-113), 3, [], .inl 0, []) else none
    else
     bif Nat.ble 172 pc then
      bif Nat.ble 174 pc then
       bif Nat.ble 177 pc then
        bif Nat.beq pc 177 then some (.iinc 3 1, 3, [], .inl (1), []) else none
       else
        bif Nat.beq pc 174 then some (.invokevirtual 346, 3, [215, 5, 0, 7, 12], .inl 0, []) else none
      else
       bif Nat.ble 173 pc then
        bif Nat.beq pc 173 then some (.laload, 1, [], .inl 0, []) else none
       else
        bif Nat.beq pc 172 then some (.iadd, 1, [], .inl 0, []) else none
     else
      bif Nat.ble 170 pc then
       bif Nat.ble 171 pc then
        bif Nat.beq pc 171 then some (.iload_n 3, 1, [], .inl 0, []) else none
       else
        bif Nat.beq pc 170 then some (.imul, 1, [], .inl 0, []) else none
      else
       bif Nat.beq pc 169 then some (.iload_n 1, 1, [], .inl 0, []) else none
   else
    bif Nat.ble 155 pc then
     bif Nat.ble 162 pc then
      bif Nat.ble 164 pc then
       bif Nat.ble 167 pc then
        bif Nat.beq pc 167 then some (.bipush 6, 2, [], .inl (6), []) else none
       else
        bif Nat.beq pc 164 then some (.getfield 87, 3, [12, 803, 2], .inl 0, []) else none
      else
       bif Nat.ble 163 pc then
        bif Nat.beq pc 163 then some (.aload_n 0, 1, [], .inl 0, []) else none
       else
        bif Nat.beq pc 162 then some (.iaload, 1, [], .inl 0, []) else none
     else
      bif Nat.ble 157 pc then
       bif Nat.ble 160 pc then
        bif Nat.beq pc 160 then some (.iload 5, 2, [], .inl 0, []) else none
       else
        bif Nat.beq pc 157 then some (.getfield 33, 3, [12, 777, 2], .inl 0, []) else none
      else
       bif Nat.ble 156 pc then
        bif Nat.beq pc 156 then some (.aload_n 0, 1, [], .inl 0, []) else none
       else
        bif Nat.beq pc 155 then some (.iaload, 1, [], .inl 0, []) else none
    else
     bif Nat.ble 147 pc then
      bif Nat.ble 150 pc then
       bif Nat.ble 153 pc then
        bif Nat.beq pc 153 then some (.iload 5, 2, [], .inl 0, []) else none
       else
        bif Nat.beq pc 150 then some (.getfield 30, 3, [12, 776, 2], .inl 0, []) else none
      else
       bif Nat.ble 149 pc then
        bif Nat.beq pc 149 then some (.aload_n 0, 1, [], .inl 0, []) else none
       else
        bif Nat.beq pc 147 then some (.iload 4, 2, [], .inl 0, []) else none
     else
      bif Nat.ble 145 pc then
       bif Nat.ble 146 pc then
        bif Nat.beq pc 146 then some (.aload_n 0, 1, [], .inl 0, []) else none
       else
        bif Nat.beq pc 145 then some (.iastore, 1, [], .inl 0, []) else none
      else
       bif Nat.beq pc 144 then some (.iconst (-1), 1, [], .inl (-1), []) else none
  else
   bif Nat.ble 117 pc then
    bif Nat.ble 130 pc then
     bif Nat.ble 137 pc then
      bif Nat.ble 139 pc then
       bif Nat.ble 142 pc then
        bif Nat.beq pc 142 then some (.iload 4, 2, [], .inl 0, []) else none
       else
        bif Nat.beq pc 139 then some (.getfield 145, 3, [12, 824, 2], .inl 0, []) else none
      else
       bif Nat.ble 138 pc then
        bif Nat.beq pc 138 then some (.aload_n 0, 1, [], .inl 0, []) else none
       else
        bif Nat.beq pc 137 then some (.iastore, 1, [], .inl 0, []) else none
     else
      bif Nat.ble 134 pc then
       bif Nat.ble 136 pc then
        bif Nat.beq pc 136 then some (.iaload, 1, [], .inl 0, []) else none
       else
        bif Nat.beq pc 134 then some (.iload 5, 2, [], .inl 0, []) else none
      else
       bif Nat.ble 131 pc then
        bif Nat.beq pc 131 then some (.getfield 33, 3, [12, 777, 2], .inl 0, []) else none
       else
        bif Nat.beq pc 130 then some (.aload_n 0, 1, [], .inl 0, []) else none
    else
     bif Nat.ble 123 pc then
      bif Nat.ble 125 pc then
       bif Nat.ble 128 pc then
        bif Nat.beq pc 128 then some (.iload 4, 2, [], .inl 0, []) else none
       else
        bif Nat.beq pc 125 then some (.getfield 130, 3, [12, 819, 2], .inl 0, []) else none
      else
       bif Nat.ble 124 pc then
        bif Nat.beq pc 124 then some (.aload_n 0, 1, [], .inl 0, []) else none
       else
        bif Nat.beq pc 123 then some (.iastore, 1, [], .inl 0, []) else none
     else
      bif Nat.ble 120 pc then
       bif Nat.ble 122 pc then
        bif Nat.beq pc 122 then some (.iaload, 1, [], .inl 0, []) else none
       else
        bif Nat.beq pc 120 then some (.iload 5, 2, [], .inl 0, []) else none
      else
       bif Nat.beq pc 117 then some (.getfield 30, 3, [12, 776, 2], .inl 0, []) else none
   else
    bif Nat.ble 106 pc then
     bif Nat.ble 110 pc then
      bif Nat.ble 114 pc then
       bif Nat.ble 116 pc then
        bif Nat.beq pc 116 then some (.aload_n 0, 1, [], .inl 0, []) else none
       else
        bif Nat.beq pc 114 then some (.iload 4, 2, [], .inl 0, []) else none
      else
       bif Nat.ble 111 pc then
        bif Nat.beq pc 111 then some (.getfield 127, 3, [12, 818, 2], .inl 0, []) else none
       else
        bif Nat.beq pc 110 then some (.aload_n 0, 1, [], .inl 0, []) else none
     else
      bif Nat.ble 108 pc then
       bif Nat.ble 109 pc then
        bif Nat.beq pc 109 then some (.lastore, 1, [], .inl 0, []) else none
       else
        bif Nat.beq pc 108 then some (.laload, 1, [], .inl 0, []) else none
      else
       bif Nat.beq pc 106 then some (.iload 5, 2, [], .inl 0, []) else none
    else
     bif Nat.ble 97 pc then
      bif Nat.ble 102 pc then
       bif Nat.ble 103 pc then
        bif Nat.beq pc 103 then some (.getfield 27, 3, [12, 775, 2], .inl 0, []) else none
       else
        bif Nat.beq pc 102 then some (.aload_n 0, 1, [], .inl 0, []) else none
      else
       bif Nat.ble 100 pc then
        bif Nat.beq pc 100 then some (.iload 4, 2, [], .inl 0, []) else none
       else
        bif Nat.beq pc 97 then some (.getfield 124, 3, [12, 817, 2], .inl 0, []) else none
     else
      bif Nat.ble 94 pc then
       bif Nat.ble 96 pc then
        bif Nat.beq pc 96 then some (.aload_n 0, 1, [], .inl 0, []) else none
       else
        bif Nat.beq pc 94 then some (.istore 5, 2, [], .inl 0, []) else none
      else
       bif Nat.beq pc 93 then some (.iadd, 1, [], .inl 0, []) else none
 else
  bif Nat.ble 49 pc then
   bif Nat.ble 69 pc then
    bif Nat.ble 83 pc then
     bif Nat.ble 88 pc then
      bif Nat.ble 91 pc then
       bif Nat.ble 92 pc then
        bif Nat.beq pc 92 then some (.iload_n 3, 1, [], .inl 0, []) else none
       else
        bif Nat.beq pc 91 then some (.imul, 1, [], .inl 0, []) else none
      else
       bif Nat.ble 90 pc then
        bif Nat.beq pc 90 then some (.iload_n 2, 1, [], .inl 0, []) else none
       else
        bif Nat.beq pc 88 then some (.bipush 6, 2, [], .inl (6), []) else none
     else
      bif Nat.ble 85 pc then
       bif Nat.ble 86 pc then
        bif Nat.beq pc 86 then some (.istore 4, 2, [], .inl 0, []) else none
       else
        bif Nat.beq pc 85 then some (.iadd, 1, [], .inl 0, []) else none
      else
       bif Nat.ble 84 pc then
        bif Nat.beq pc 84 then some (.iload_n 3, 1, [], .inl 0, []) else none
       else
        bif Nat.beq pc 83 then some (.imul, 1, [], .inl 0, []) else none
    else
     bif Nat.ble 74 pc then
      bif Nat.ble 79 pc then
       bif Nat.ble 80 pc then
        bif Nat.beq pc 80 then some (.getfield 340, 3, [12, 813, 0], .inl 0, []) else none
       else
        bif Nat.beq pc 79 then some (.aload_n 0, 1, [], .inl 0, []) else none
      else
       bif Nat.ble 77 pc then
        bif Nat.beq pc 77 then some (.bipush 6, 2, [], .inl (6), []) else none
       else
        bif Nat.beq pc 74 then some (.if_icmp .ge 109, 3, [], .inl 0, []) else none
     else
      bif Nat.ble 72 pc then
       bif Nat.ble 73 pc then
        bif Nat.beq pc 73 then some (.iaload, 1, [], .inl 0, []) else none
       else
        bif Nat.beq pc 72 then some (.iload_n 2, 1, [], .inl 0, []) else none
      else
       bif Nat.beq pc 69 then some (.getfield 24, 3, [12, 774, 2], .inl 0, []) else none
   else
    bif Nat.ble 60 pc then
     bif Nat.ble 65 pc then
      bif Nat.ble 67 pc then
       bif Nat.ble 68 pc then
        bif Nat.beq pc 68 then some (.aload_n 0, 1, [], .inl 0, []) else none
       else
        bif Nat.beq pc 67 then some (.iload_n 3, 1, [], .inl 0, [4, 5]) else none
      else
       bif Nat.ble 66 pc then
        bif Nat.beq pc 66 then some (.istore_n 3, 1, [], .inl 0, []) else none
       else
        bif Nat.beq pc 65 then some (.iconst 0, 1, [], .inl (0), []) else none
     else
      bif Nat.ble 63 pc then
       bif Nat.ble 64 pc then
        bif Nat.beq pc 64 then some (.iastore, 1, [], .inl 0, []) else none
       else
        bif Nat.beq pc 63 then some (.iconst (-1), 1, [], .inl (-1), []) else none
      else
       bif Nat.beq pc 60 then some (.getfield 340, 3, [12, 813, 0], .inl 0, []) else none
    else
     bif Nat.ble 54 pc then
      bif Nat.ble 56 pc then
       bif Nat.ble 59 pc then
        bif Nat.beq pc 59 then some (.aload_n 0, 1, [], .inl 0, []) else none
       else
        bif Nat.beq pc 56 then some (.getfield 142, 3, [12, 823, 2], .inl 0, []) else none
      else
       bif Nat.ble 55 pc then
        bif Nat.beq pc 55 then some (.aload_n 0, 1, [], .inl 0, []) else none
       else
        bif Nat.beq pc 54 then some (.iastore, 1, [], .inl 0, []) else none
     else
      bif Nat.ble 52 pc then
       bif Nat.ble 53 pc then
        bif Nat.beq pc 53 then some (.iaload, 1, [], .inl 0, []) else none
       else
        bif Nat.beq pc 52 then some (.iload_n 2, 1, [], .inl 0, []) else none
      else
       bif Nat.beq pc 49 then some (.getfield 24, 3, [12, 774, 2], .inl 0, []) else none
  else
   bif Nat.ble 22 pc then
    bif Nat.ble 35 pc then
     bif Nat.ble 41 pc then
      bif Nat.ble 45 pc then
       bif Nat.ble 48 pc then
        bif Nat.beq pc 48 then some (.aload_n 0, 1, [], .inl 0, []) else none
       else
        bif Nat.beq pc 45 then some (.getfield 340, 3, [12, 813, 0], .inl 0, []) else none
      else
       bif Nat.ble 44 pc then
        bif Nat.beq pc 44 then some (.aload_n 0, 1, [], .inl 0, []) else none
       else
        bif Nat.beq pc 41 then some (.getfield 121, 3, [12, 816, 2], .inl 0, []) else none
     else
      bif Nat.ble 39 pc then
       bif Nat.ble 40 pc then
        bif Nat.beq pc 40 then some (.aload_n 0, 1, [], .inl 0, []) else none
       else
        bif Nat.beq pc 39 then some (.iastore, 1, [], .inl 0, []) else none
      else
       bif Nat.ble 36 pc then
        bif Nat.beq pc 36 then some (.getfield 160, 3, [12, 790, 0], .inl 0, []) else none
       else
        bif Nat.beq pc 35 then some (.aload_n 0, 1, [], .inl 0, []) else none
    else
     bif Nat.ble 27 pc then
      bif Nat.ble 31 pc then
       bif Nat.ble 32 pc then
        bif Nat.beq pc 32 then some (.getfield 340, 3, [12, 813, 0], .inl 0, []) else none
       else
        bif Nat.beq pc 31 then some (.aload_n 0, 1, [], .inl 0, []) else none
      else
       bif Nat.ble 28 pc then
        bif Nat.beq pc 28 then some (.getfield 118, 3, [12, 815, 2], .inl 0, []) else none
       else
        bif Nat.beq pc 27 then some (.aload_n 0, 1, [], .inl 0, []) else none
     else
      bif Nat.ble 25 pc then
       bif Nat.ble 26 pc then
        bif Nat.beq pc 26 then some (.iastore, 1, [], .inl 0, []) else none
       else
        bif Nat.beq pc 25 then some (.iload_n 2, 1, [], .inl 0, []) else none
      else
       bif Nat.beq pc 22 then some (.getfield 340, 3, [12, 813, 0], .inl 0, []) else none
   else
    bif Nat.ble 11 pc then
     bif Nat.ble 16 pc then
      bif Nat.ble 18 pc then
       bif Nat.ble 21 pc then
        bif Nat.beq pc 21 then some (.aload_n 0, 1, [], .inl 0, []) else none
       else
        bif Nat.beq pc 18 then some (.getfield 115, 3, [12, 814, 2], .inl 0, []) else none
      else
       bif Nat.ble 17 pc then
        bif Nat.beq pc 17 then some (.aload_n 0, 1, [], .inl 0, []) else none
       else
        bif Nat.beq pc 16 then some (.iastore, 1, [], .inl 0, []) else none
     else
      bif Nat.ble 12 pc then
       bif Nat.ble 13 pc then
        bif Nat.beq pc 13 then some (.getfield 340, 3, [12, 813, 0], .inl 0, []) else none
       else
        bif Nat.beq pc 12 then some (.aload_n 0, 1, [], .inl 0, []) else none
      else
       bif Nat.beq pc 11 then some (.iload_n 1, 1, [], .inl 0, []) else none
    else
     bif Nat.ble 5 pc then
      bif Nat.ble 7 pc then
       bif Nat.ble 8 pc then
        bif Nat.beq pc 8 then some (.getfield 90, 3, [12, 804, 2], .inl 0, []) else none
       else
        bif Nat.beq pc 7 then some (.aload_n 0, 1, [], .inl 0, []) else none
      else
       bif Nat.ble 6 pc then
        bif Nat.beq pc 6 then some (.istore_n 2, 1, [], .inl 0, []) else none
       else
        bif Nat.beq pc 5 then some (.iaload, 1, [], .inl 0, []) else none
     else
      bif Nat.ble 1 pc then
       bif Nat.ble 4 pc then
        bif Nat.beq pc 4 then some (.iload_n 1, 1, [], .inl 0, []) else none
       else
        bif Nat.beq pc 1 then some (.getfield 84, 3, [12, 802, 2], .inl 0, []) else none
      else
       bif Nat.beq pc 0 then some (.aload_n 0, 1, [], .inl 0, []) else none
def kX12_writeValue (pc : Nat) : Option Ent := bif Nat.ble 232 pc then none else
 bif Nat.ble 115 pc then
  bif Nat.ble 172 pc then
   bif Nat.ble 203 pc then
    bif Nat.ble 218 pc then
     bif Nat.ble 223 pc then
      bif Nat.ble 225 pc then
       bif Nat.ble 228 pc then
        bif Nat.ble 231 pc then
         bif Nat.beq pc 231 then some (.return_, 1, [], .inl 0, []) else none
        else
         bif Nat.beq pc 228 then some (.goto (-40), 3, [], .inl 0, []) else none
       else
        bif Nat.beq pc 225 then some (.iinc 6 1, 3, [], .inl (1), []) else none
      else
       bif Nat.ble 224 pc then
        bif Nat.beq pc 224 then some (.lastore, 1, [], .inl 0, []) else none
       else
        bif Nat.beq pc 223 then some (.laload, 1, [], .inl 0, []) else none
     else
      bif Nat.ble 220 pc then
       bif Nat.ble 222 pc then
        bif Nat.beq pc 222 then some (.iadd, 1, [], .inl 0, []) else none
       else
        bif Nat.beq pc 220 then some (.iload 6, 2, [], .inl 0, []) else none
      else
       bif Nat.ble 219 pc then
        bif Nat.beq pc 219 then some (.imul, 1, [], .inl 0, []) else none
       else
        bif Nat.beq pc 218 then some (.l2i, 1, [], .inl 0, []) else none
    else
     bif Nat.ble 209 pc then
      bif Nat.ble 211 pc then
       bif Nat.ble 214 pc then
        bif Nat.ble 216 pc then
         bif Nat.beq pc 216 then some (.lload 4, 2, [], .inl 0, []) else none
        else
         bif Nat.beq pc 214 then some (.bipush 16, 2, [], .inl (16), []) else none
       else
        bif Nat.beq pc 211 then some (.getfield 81, 3, [12, 801, 2], .inl 0, []) else none
      else
       bif Nat.ble 210 pc then
        bif Nat.beq pc 210 then some (.aload_n 0, 1, [], .inl 0, []) else none
       else
        bif Nat.beq pc 209 then some (.iadd, 1, [], .inl 0, []) else none
     else
      bif Nat.ble 206 pc then
       bif Nat.ble 207 pc then
        bif Nat.beq pc 207 then some (.iload 6, 2, [], .inl 0, []) else none
       else
        bif Nat.beq pc 206 then some (.imul, 1, [], .inl 0, []) else none
      else
       bif Nat.ble 205 pc then
        bif Nat.beq pc 205 then some (.iload_n 1, 1, [], .inl 0, []) else none
       else
        bif Nat.beq pc 203 then some (.bipush 16, 2, [], .inl (16), []) else none
   else
    bif Nat.ble 186 pc then
     bif Nat.ble 194 pc then
      bif Nat.ble 196 pc then
       bif Nat.ble 199 pc then
        bif Nat.ble 200 pc then
         bif Nat.beq pc 200 then some (.getfield 136, 3, [12, 821, 2], .inl 0, []) else none
        else
         bif Nat.beq pc 199 then some (.aload_n 0, 1, [], .inl 0, []) else none
       else
        bif Nat.beq pc 196 then some (.if_icmp .ge 35, 3, [], .inl 0, []) else none
      else
       bif Nat.ble 195 pc then
        bif Nat.beq pc 195 then some (.iaload, 1, [], .inl 0, []) else none
       else
        bif Nat.beq pc 194 then some (.iload_n 1, 1, [], .inl 0, []) else none
     else
      bif Nat.ble 190 pc then
       bif Nat.ble 191 pc then
        bif Nat.beq pc 191 then some (.getfield 139, 3, [12, 822, 2], .inl 0, []) else none
       else
        bif Nat.beq pc 190 then some (.aload_n 0, 1, [], .inl 0, []) else none
      else
       bif Nat.ble 188 pc then
        bif Nat.beq pc 188 then some (.iload 6, 2, [], .inl 0, [2, 3, 5]) else none
       else
        bif Nat.beq pc 186 then some (.istore 6, 2, [], .inl 0, []) else none
    else
     bif Nat.ble 180 pc then
      bif Nat.ble 183 pc then
       bif Nat.ble 184 pc then
        bif Nat.ble 185 pc then
         bif Nat.beq pc 185 then some (.iconst 0, 1, [], .inl (0), []) else none
        else
         bif Nat.beq pc 184 then some (.iastore, 1, [], .inl 0, []) else none
       else
        bif Nat.beq pc 183 then some (.iaload, 1, [], .inl 0, []) else none
      else
       bif Nat.ble 182 pc then
        bif Nat.beq pc 182 then some (.l2i, 1, [], .inl 0, []) else none
       else
        bif Nat.beq pc 180 then some (.lload 4, 2, [], .inl 0, []) else none
     else
      bif Nat.ble 176 pc then
       bif Nat.ble 177 pc then
        bif Nat.beq pc 177 then some (.getfield 78, 3, [12, 800, 2], .inl 0, []) else none
       else
        bif Nat.beq pc 176 then some (.aload_n 0, 1, [], .inl 0, []) else none
      else
       bif Nat.ble 175 pc then
        bif Nat.beq pc 175 then some (.iload_n 1, 1, [], .inl 0, []) else none
       else
        bif Nat.beq pc 172 then some (.getfield 139, 3, [12, 822, 2], .inl 0, []) else none
  else
   bif Nat.ble 142 pc then
    bif Nat.ble 155 pc then
     bif Nat.ble 164 pc then
      bif Nat.ble 167 pc then
       bif Nat.ble 168 pc then
        bif Nat.ble 171 pc then
         bif Nat.beq pc 171 then some (.aload_n 0, 1, [], .inl 0, []) else none
        else
         bif Nat.beq pc 168 then some (.ifCond .lt 63, 3, [], .inl 0, []) else none
       else
        bif Nat.beq pc 167 then some (.lcmp, 1, [], .inl 0, []) else none
      else
       bif Nat.ble 166 pc then
        bif Nat.beq pc 166 then some (.lconst 0, 1, [], .inr (.inl (0)), []) else none
       else
        bif Nat.beq pc 164 then some (.lload 4, 2, [], .inl 0, []) else none
     else
      bif Nat.ble 159 pc then
       bif Nat.ble 161 pc then
        bif Nat.beq pc 161 then some (.if_icmp .ne 70, 3, [], .inl 0, []) else none
       else
        bif Nat.beq pc 159 then some (.bipush 10, 2, [], .inl (10), []) else none
      else
       bif Nat.ble 158 pc then
        bif Nat.beq pc 158 then some (.iload_n 2, 1, [], .inl 0, []) else none
       else
        bif Nat.beq pc 155 then some (.goto (-70), 3, [], .inl 0, []) else none
    else
     bif Nat.ble 148 pc then
      bif Nat.ble 150 pc then
       bif Nat.ble 151 pc then
        bif Nat.ble 152 pc then
         bif Nat.beq pc 152 then some (.iinc 6 1, 3, [], .inl (1), []) else none
        else
         bif Nat.beq pc 151 then some (.iastore, 1, [], .inl 0, []) else none
       else
        bif Nat.beq pc 150 then some (.iadd, 1, [], .inl 0, []) else none
      else
       bif Nat.ble 149 pc then
        bif Nat.beq pc 149 then some (.iconst 1, 1, [], .inl (1), []) else none
       else
        bif Nat.beq pc 148 then some (.iaload, 1, [], .inl 0, []) else none
     else
      bif Nat.ble 146 pc then
       bif Nat.ble 147 pc then
        bif Nat.beq pc 147 then some (.dup2, 1, [], .inl 0, []) else none
       else
        bif Nat.beq pc 146 then some (.iload_n 1, 1, [], .inl 0, []) else none
      else
       bif Nat.ble 143 pc then
        bif Nat.beq pc 143 then some (.getfield 139, 3, [12, 822, 2], .inl 0, []) else none
       else
        bif Nat.beq pc 142 then some (.aload_n 0, 1, [], .inl 0, []) else none
   else
    bif Nat.ble 129 pc then
     bif Nat.ble 136 pc then
      bif Nat.ble 139 pc then
       bif Nat.ble 140 pc then
        bif Nat.ble 141 pc then
         bif Nat.beq pc 141 then some (.lastore, 1, [], .inl 0, []) else none
        else
         bif Nat.beq pc 140 then some (.laload, 1, [], .inl 0, []) else none
       else
        bif Nat.beq pc 139 then some (.iadd, 1, [], .inl 0, []) else none
      else
       bif Nat.ble 137 pc then
        bif Nat.beq pc 137 then some (.iload 6, 2, [], .inl 0, []) else none
       else
        bif Nat.beq pc 136 then some (.imul, 1, [], .inl 0, []) else none
     else
      bif Nat.ble 133 pc then
       bif Nat.ble 135 pc then
        bif Nat.beq pc 135 then some (.iload_n 3, 1, [], .inl 0, []) else none
       else
        bif Nat.beq pc 133 then some (.bipush 8, 2, [], .inl (8), []) else none
      else
       bif Nat.ble 130 pc then
        bif Nat.beq pc 130 then some (.getfield 13, 3, [12, 770, 2], .inl 0, []) else none
       else
        bif Nat.beq pc 129 then some (.aload_n 0, 1, [], .inl 0, []) else none
    else
     bif Nat.ble 122 pc then
      bif Nat.ble 126 pc then
       bif Nat.ble 127 pc then
        bif Nat.ble 128 pc then
         bif Nat.beq pc 128 then some (.iadd, 1, [], .inl 0, []) else none
        else
         bif Nat.beq pc 127 then some (.iaload, 1, [], .inl 0, []) else none
       else
        bif Nat.beq pc 126 then some (.iload_n 1, 1, [], .inl 0, []) else none
      else
       bif Nat.ble 123 pc then
        bif Nat.beq pc 123 then some (.getfield 139, 3, [12, 822, 2], .inl 0, []) else none
       else
        bif Nat.beq pc 122 then some (.aload_n 0, 1, [], .inl 0, []) else none
     else
      bif Nat.ble 120 pc then
       bif Nat.ble 121 pc then
        bif Nat.beq pc 121 then some (.imul, 1, [], .inl 0, []) else none
       else
        bif Nat.beq pc 120 then some (.iload_n 1, 1, [], .inl 0, []) else none
      else
       bif Nat.ble 118 pc then
        bif Nat.beq pc 118 then some (.bipush 16, 2, [], .inl (16), []) else none
       else
        bif Nat.beq pc 115 then some (.getfield 136, 3, [12, 821, 2], .inl 0, []) else none
 else
  bif Nat.ble 60 pc then
   bif Nat.ble 85 pc then
    bif Nat.ble 102 pc then
     bif Nat.ble 108 pc then
      bif Nat.ble 110 pc then
       bif Nat.ble 111 pc then
        bif Nat.ble 114 pc then
         bif Nat.beq pc 114 then some (.aload_n 0, 1, [], .inl 0, []) else none
        else
         bif Nat.beq pc 111 then some (.ifCond .ne 41, 3, [], .inl 0, []) else none
       else
        bif Nat.beq pc 110 then some (.lcmp, 1, [], .inl 0, []) else none
      else
       bif Nat.ble 109 pc then
        bif Nat.beq pc 109 then some (.lconst 1, 1, [], .inr (.inl (1)), []) else none
       else
        bif Nat.beq pc 108 then some (.land, 1, [], .inl 0, []) else none
     else
      bif Nat.ble 106 pc then
       bif Nat.ble 107 pc then
        bif Nat.beq pc 107 then some (.lconst 1, 1, [], .inr (.inl (1)), []) else none
       else
        bif Nat.beq pc 106 then some (.lshr, 1, [], .inl 0, []) else none
      else
       bif Nat.ble 104 pc then
        bif Nat.beq pc 104 then some (.iload 6, 2, [], .inl 0, []) else none
       else
        bif Nat.beq pc 102 then some (.lload 4, 2, [], .inl 0, []) else none
    else
     bif Nat.ble 93 pc then
      bif Nat.ble 97 pc then
       bif Nat.ble 98 pc then
        bif Nat.ble 99 pc then
         bif Nat.beq pc 99 then some (.if_icmp .ge 59, 3, [], .inl 0, []) else none
        else
         bif Nat.beq pc 98 then some (.iaload, 1, [], .inl 0, []) else none
       else
        bif Nat.beq pc 97 then some (.iload_n 3, 1, [], .inl 0, []) else none
      else
       bif Nat.ble 94 pc then
        bif Nat.beq pc 94 then some (.getfield 7, 3, [12, 769, 2], .inl 0, []) else none
       else
        bif Nat.beq pc 93 then some (.aload_n 0, 1, [], .inl 0, []) else none
     else
      bif Nat.ble 88 pc then
       bif Nat.ble 91 pc then
        bif Nat.beq pc 91 then some (.iload 6, 2, [], .inl 0, []) else none
       else
        bif Nat.beq pc 88 then some (.if_icmp .ne 70, 3, [], .inl 0, []) else none
      else
       bif Nat.ble 86 pc then
        bif Nat.beq pc 86 then some (.bipush 9, 2, [], .inl (9), []) else none
       else
        bif Nat.beq pc 85 then some (.iload_n 2, 1, [], .inl 0, [5]) else none
   else
    bif Nat.ble 73 pc then
     bif Nat.ble 79 pc then
      bif Nat.ble 81 pc then
       bif Nat.ble 82 pc then
        bif Nat.ble 83 pc then
         bif Nat.beq pc 83 then some (.istore 6, 2, [], .inl 0, []) else none
        else
         bif Nat.beq pc 82 then some (.iconst 0, 1, [], .inl (0), []) else none
       else
        bif Nat.beq pc 81 then some (.iastore, 1, [], .inl 0, []) else none
      else
       bif Nat.ble 80 pc then
        bif Nat.beq pc 80 then some (.iconst 1, 1, [], .inl (1), []) else none
       else
        bif Nat.beq pc 79 then some (.iload_n 1, 1, [], .inl 0, []) else none
     else
      bif Nat.ble 75 pc then
       bif Nat.ble 76 pc then
        bif Nat.beq pc 76 then some (.getfield 139, 3, [12, 822, 2], .inl 0, []) else none
       else
        bif Nat.beq pc 75 then some (.aload_n 0, 1, [], .inl 0, []) else none
      else
       bif Nat.ble 74 pc then
        bif Nat.beq pc 74 then some (.lastore, 1, [], .inl 0, []) else none
       else
        bif Nat.beq pc 73 then some (.laload, 1, [], .inl 0, []) else none
    else
     bif Nat.ble 67 pc then
      bif Nat.ble 69 pc then
       bif Nat.ble 71 pc then
        bif Nat.ble 72 pc then
         bif Nat.beq pc 72 then some (.iadd, 1, [], .inl 0, []) else none
        else
         bif Nat.beq pc 71 then some (.l2i, 1, [], .inl 0, []) else none
       else
        bif Nat.beq pc 69 then some (.lload 4, 2, [], .inl 0, []) else none
      else
       bif Nat.ble 68 pc then
        bif Nat.beq pc 68 then some (.imul, 1, [], .inl 0, []) else none
       else
        bif Nat.beq pc 67 then some (.iload_n 3, 1, [], .inl 0, []) else none
     else
      bif Nat.ble 62 pc then
       bif Nat.ble 65 pc then
        bif Nat.beq pc 65 then some (.bipush 8, 2, [], .inl (8), []) else none
       else
        bif Nat.beq pc 62 then some (.getfield 13, 3, [12, 770, 2], .inl 0, []) else none
      else
       bif Nat.ble 61 pc then
        bif Nat.beq pc 61 then some (.aload_n 0, 1, [], .inl 0, []) else none
       else
        bif Nat.beq pc 60 then some (.imul, 1, [], .inl 0, []) else none
  else
   bif Nat.ble 30 pc then
    bif Nat.ble 43 pc then
     bif Nat.ble 50 pc then
      bif Nat.ble 54 pc then
       bif Nat.ble 57 pc then
        bif Nat.ble 59 pc then
         bif Nat.beq pc 59 then some (.iload_n 1, 1, [], .inl 0, []) else none
        else
         bif Nat.beq pc 57 then some (.bipush 16, 2, [], .inl (16), []) else none
       else
        bif Nat.beq pc 54 then some (.getfield 136, 3, [12, 821, 2], .inl 0, []) else none
      else
       bif Nat.ble 53 pc then
        bif Nat.beq pc 53 then some (.aload_n 0, 1, [], .inl 0, []) else none
       else
        bif Nat.beq pc 50 then some (.ifCond .lt 32, 3, [], .inl 0, []) else none
     else
      bif Nat.ble 48 pc then
       bif Nat.ble 49 pc then
        bif Nat.beq pc 49 then some (.lcmp, 1, [], .inl 0, []) else none
       else
        bif Nat.beq pc 48 then some (.lconst 0, 1, [], .inr (.inl (0)), []) else none
      else
       bif Nat.ble 46 pc then
        bif Nat.beq pc 46 then some (.lload 4, 2, [], .inl 0, []) else none
       else
        bif Nat.beq pc 43 then some (.if_icmp .ne 39, 3, [], .inl 0, []) else none
    else
     bif Nat.ble 37 pc then
      bif Nat.ble 39 pc then
       bif Nat.ble 40 pc then
        bif Nat.ble 41 pc then
         bif Nat.beq pc 41 then some (.bipush 8, 2, [], .inl (8), []) else none
        else
         bif Nat.beq pc 40 then some (.iload_n 2, 1, [], .inl 0, []) else none
       else
        bif Nat.beq pc 39 then some (.iastore, 1, [], .inl 0, []) else none
      else
       bif Nat.ble 38 pc then
        bif Nat.beq pc 38 then some (.iconst 0, 1, [], .inl (0), []) else none
       else
        bif Nat.beq pc 37 then some (.iload_n 1, 1, [], .inl 0, []) else none
     else
      bif Nat.ble 33 pc then
       bif Nat.ble 34 pc then
        bif Nat.beq pc 34 then some (.getfield 139, 3, [12, 822, 2], .inl 0, []) else none
       else
        bif Nat.beq pc 33 then some (.aload_n 0, 1, [], .inl 0, []) else none
      else
       bif Nat.ble 32 pc then
        bif Nat.beq pc 32 then some (.lastore, 1, [], .inl 0, []) else none
       else
        bif Nat.beq pc 30 then some (.lload 4, 2, [], .inl 0, []) else none
   else
    bif Nat.ble 14 pc then
     bif Nat.ble 22 pc then
      bif Nat.ble 25 pc then
       bif Nat.ble 26 pc then
        bif Nat.ble 27 pc then
         bif Nat.beq pc 27 then some (.goto 5, 3, [], .inl 0, []) else none
        else
         bif Nat.beq pc 26 then some (.i2l, 1, [], .inl 0, []) else none
       else
        bif Nat.beq pc 25 then some (.iaload, 1, [], .inl 0, []) else none
      else
       bif Nat.ble 24 pc then
        bif Nat.beq pc 24 then some (.l2i, 1, [], .inl 0, []) else none
       else
        bif Nat.beq pc 22 then some (.lload 4, 2, [], .inl 0, []) else none
     else
      bif Nat.ble 18 pc then
       bif Nat.ble 19 pc then
        bif Nat.beq pc 19 then some (.getfield 90, 3, [12, 804, 2], .inl 0, []) else none
       else
        bif Nat.beq pc 18 then some (.aload_n 0, 1, [], .inl 0, []) else none
      else
       bif Nat.ble 15 pc then
        bif Nat.beq pc 15 then some (.ifCond .lt 15, 3, [], .inl 0, []) else none
       else
        bif Nat.beq pc 14 then some (.lcmp, 1, [], .inl 0, []) else none
    else
     bif Nat.ble 6 pc then
      bif Nat.ble 11 pc then
       bif Nat.ble 13 pc then
        bif Nat.beq pc 13 then some (.lconst 0, 1, [], .inr (.inl (0)), []) else none
       else
        bif Nat.beq pc 11 then some (.lload 4, 2, [], .inl 0, []) else none
      else
       bif Nat.ble 8 pc then
        bif Nat.beq pc 8 then some (.if_icmp .ne 22, 3, [], .inl 0, []) else none
       else
        bif Nat.beq pc 6 then some (.bipush 11, 2, [], .inl (11), []) else none
     else
      bif Nat.ble 4 pc then
       bif Nat.ble 5 pc then
        bif Nat.beq pc 5 then some (.iload_n 2, 1, [], .inl 0, []) else none
       else
        bif Nat.beq pc 4 then some (.iload_n 1, 1, [], .inl 0, []) else none
      else
       bif Nat.ble 1 pc then
        bif Nat.beq pc 1 then some (.getfield 133, 3, [12, 820, 2], .inl 0, []) else none
       else
        bif Nat.beq pc 0 then some (.aload_n 0, 1, [], .inl 0, []) else none
def kX12_goes (pc : Nat) : Option Ent := bif Nat.ble 154 pc then none else
 bif Nat.ble 95 pc then
  bif Nat.ble 124 pc then
   bif Nat.ble 142 pc then
    bif Nat.ble 148 pc then
     bif Nat.ble 152 pc then
      bif Nat.ble 153 pc then
       bif Nat.beq pc 153 then some (.ireturn, 1, [1], .inl 0, []) else none
      else
       bif Nat.beq pc 152 then some (.iconst 0, 1, [], .inl (0), []) else none
     else
      bif Nat.ble 149 pc then
       bif Nat.beq pc 149 then some (.goto 4, 3, [], .inl 0, []) else none
      else
       bif Nat.beq pc 148 then some (.iconst 1, 1, [], .inl (1), []) else none
    else
     bif Nat.ble 144 pc then
      bif Nat.ble 145 pc then
       bif Nat.beq pc 145 then some (.if_icmp .ne 7, 3, [], .inl 0, []) else none
      else
       bif Nat.beq pc 144 then some (.iload_n 1, 1, [], .inl 0, []) else none
     else
      bif Nat.ble 143 pc then
       bif Nat.beq pc 143 then some (.iload_n 0, 1, [], .inl 0, []) else none
      else
       bif Nat.beq pc 142 then some (.ireturn, 1, [1], .inl 0, []) else none
   else
    bif Nat.ble 132 pc then
     bif Nat.ble 136 pc then
      bif Nat.ble 139 pc then
       bif Nat.beq pc 139 then some (.invokestatic 169, 3, [157, 3, 1, 6, 100], .inl 0, []) else none
      else
       bif Nat.beq pc 136 then some (.ldc2_w 220, 3, [], .inr (.inl (7)), []) else none
     else
      bif Nat.ble 133 pc then
       bif Nat.beq pc 133 then some (.ldc2_w 352, 3, [], .inr (.inl (6)), []) else none
      else
       bif Nat.beq pc 132 then some (.i2l, 1, [], .inl 0, []) else none
    else
     bif Nat.ble 130 pc then
      bif Nat.ble 131 pc then
       bif Nat.beq pc 131 then some (.iload_n 1, 1, [], .inl 0, []) else none
      else
       bif Nat.beq pc 130 then some (.ireturn, 1, [1], .inl 0, []) else none
     else
      bif Nat.ble 127 pc then
       bif Nat.beq pc 127 then some (.invokestatic 169, 3, [157, 3, 1, 6, 100], .inl 0, []) else none
      else
       bif Nat.beq pc 124 then some (.ldc2_w 220, 3, [], .inr (.inl (7)), []) else none
  else
   bif Nat.ble 108 pc then
    bif Nat.ble 118 pc then
     bif Nat.ble 120 pc then
      bif Nat.ble 121 pc then
       bif Nat.beq pc 121 then some (.ldc2_w 255, 3, [], .inr (.inl (5)), []) else none
      else
       bif Nat.beq pc 120 then some (.i2l, 1, [], .inl 0, []) else none
     else
      bif Nat.ble 119 pc then
       bif Nat.beq pc 119 then some (.iload_n 1, 1, [], .inl 0, []) else none
      else
       bif Nat.beq pc 118 then some (.ireturn, 1, [1], .inl 0, []) else none
    else
     bif Nat.ble 112 pc then
      bif Nat.ble 115 pc then
       bif Nat.beq pc 115 then some (.invokestatic 169, 3, [157, 3, 1, 6, 100], .inl 0, []) else none
      else
       bif Nat.beq pc 112 then some (.ldc2_w 220, 3, [], .inr (.inl (7)), []) else none
     else
      bif Nat.ble 109 pc then
       bif Nat.beq pc 109 then some (.ldc2_w 257, 3, [], .inr (.inl (4)), []) else none
      else
       bif Nat.beq pc 108 then some (.i2l, 1, [], .inl 0, []) else none
   else
    bif Nat.ble 100 pc then
     bif Nat.ble 106 pc then
      bif Nat.ble 107 pc then
       bif Nat.beq pc 107 then some (.iload_n 1, 1, [], .inl 0, []) else none
      else
       bif Nat.beq pc 106 then some (.ireturn, 1, [1], .inl 0, []) else none
     else
      bif Nat.ble 103 pc then
       bif Nat.beq pc 103 then some (.invokestatic 169, 3, [157, 3, 1, 6, 100], .inl 0, []) else none
      else
       bif Nat.beq pc 100 then some (.ldc2_w 220, 3, [], .inr (.inl (7)), []) else none
    else
     bif Nat.ble 96 pc then
      bif Nat.ble 97 pc then
       bif Nat.beq pc 97 then some (.ldc2_w 350, 3, [], .inr (.inl (3)), []) else none
      else
       bif Nat.beq pc 96 then some (.i2l, 1, [], .inl 0, []) else none
     else
      bif Nat.beq pc 95 then some (.iload_n 1, 1, [], .inl 0, []) else none
 else
  bif Nat.ble 65 pc then
   bif Nat.ble 77 pc then
    bif Nat.ble 89 pc then
     bif Nat.ble 93 pc then
      bif Nat.ble 94 pc then
       bif Nat.beq pc 94 then some (.ireturn, 1, [1], .inl 0, []) else none
      else
       bif Nat.beq pc 93 then some (.iconst 0, 1, [], .inl (0), []) else none
     else
      bif Nat.ble 90 pc then
       bif Nat.beq pc 90 then some (.goto 4, 3, [], .inl 0, []) else none
      else
       bif Nat.beq pc 89 then some (.iconst 1, 1, [], .inl (1), []) else none
    else
     bif Nat.ble 83 pc then
      bif Nat.ble 86 pc then
       bif Nat.beq pc 86 then some (.ifCond .eq 7, 3, [], .inl 0, []) else none
      else
       bif Nat.beq pc 83 then some (.invokestatic 169, 3, [157, 3, 1, 6, 100], .inl 0, []) else none
     else
      bif Nat.ble 80 pc then
       bif Nat.beq pc 80 then some (.ldc2_w 220, 3, [], .inr (.inl (7)), []) else none
      else
       bif Nat.beq pc 77 then some (.ldc2_w 257, 3, [], .inr (.inl (4)), []) else none
   else
    bif Nat.ble 71 pc then
     bif Nat.ble 75 pc then
      bif Nat.ble 76 pc then
       bif Nat.beq pc 76 then some (.i2l, 1, [], .inl 0, []) else none
      else
       bif Nat.beq pc 75 then some (.iload_n 1, 1, [], .inl 0, []) else none
     else
      bif Nat.ble 72 pc then
       bif Nat.beq pc 72 then some (.if_icmp .eq 17, 3, [], .inl 0, []) else none
      else
       bif Nat.beq pc 71 then some (.iconst 2, 1, [], .inl (2), []) else none
    else
     bif Nat.ble 69 pc then
      bif Nat.ble 70 pc then
       bif Nat.beq pc 70 then some (.iload_n 1, 1, [], .inl 0, []) else none
      else
       bif Nat.beq pc 69 then some (.ireturn, 1, [1], .inl 0, []) else none
     else
      bif Nat.ble 68 pc then
       bif Nat.beq pc 68 then some (.iconst 0, 1, [], .inl (0), []) else none
      else
       bif Nat.beq pc 65 then some (.goto 4, 3, [], .inl 0, []) else none
  else
   bif Nat.ble 47 pc then
    bif Nat.ble 55 pc then
     bif Nat.ble 61 pc then
      bif Nat.ble 64 pc then
       bif Nat.beq pc 64 then some (.iconst 1, 1, [], .inl (1), []) else none
      else
       bif Nat.beq pc 61 then some (.ifCond .eq 7, 3, [], .inl 0, []) else none
     else
      bif Nat.ble 58 pc then
       bif Nat.beq pc 58 then some (.invokestatic 169, 3, [157, 3, 1, 6, 100], .inl 0, []) else none
      else
       bif Nat.beq pc 55 then some (.ldc2_w 220, 3, [], .inr (.inl (7)), []) else none
    else
     bif Nat.ble 51 pc then
      bif Nat.ble 52 pc then
       bif Nat.beq pc 52 then some (.ldc2_w 257, 3, [], .inr (.inl (4)), []) else none
      else
       bif Nat.beq pc 51 then some (.i2l, 1, [], .inl 0, []) else none
     else
      bif Nat.ble 50 pc then
       bif Nat.beq pc 50 then some (.iload_n 1, 1, [], .inl 0, []) else none
      else
       bif Nat.beq pc 47 then some (.if_icmp .eq 17, 3, [], .inl 0, []) else none
   else
    bif Nat.ble 41 pc then
     bif Nat.ble 45 pc then
      bif Nat.ble 46 pc then
       bif Nat.beq pc 46 then some (.iconst 2, 1, [], .inl (2), []) else none
      else
       bif Nat.beq pc 45 then some (.iload_n 1, 1, [], .inl 0, []) else none
     else
      bif Nat.ble 42 pc then
       bif Nat.beq pc 42 then some (.if_icmp .eq 22, 3, [], .inl 0, []) else none
      else
       bif Nat.beq pc 41 then some (.iconst 1, 1, [], .inl (1), []) else none
    else
     bif Nat.ble 1 pc then
      bif Nat.ble 40 pc then
       bif Nat.beq pc 40 then some (.iload_n 1, 1, [], .inl 0, []) else none
      else
       bif Nat.beq pc 1 then some (.tableswitch 142 1 6 #[39, 69, 94, 106, 118, 130], 39, [], .inl 0, []) else none
     else
      bif Nat.beq pc 0 then some (.iload_n 0, 1, [], .inl 0, []) else none
def kX12_widened (pc : Nat) : Option Ent := bif Nat.ble 64 pc then none else
 bif Nat.ble 33 pc then
  bif Nat.ble 49 pc then
   bif Nat.ble 55 pc then
    bif Nat.ble 59 pc then
     bif Nat.ble 60 pc then
      bif Nat.ble 63 pc then
       bif Nat.beq pc 63 then some (.lreturn, 1, [], .inl 0, []) else none
      else
       bif Nat.beq pc 60 then some (.invokestatic 354, 3, [1, 1, 2, 2, 100], .inl 0, []) else none
     else
      bif Nat.beq pc 59 then some (.l2d, 1, [], .inl 0, []) else none
    else
     bif Nat.ble 58 pc then
      bif Nat.beq pc 58 then some (.lload_n 2, 1, [], .inl 0, []) else none
     else
      bif Nat.beq pc 55 then some (.goto 8, 3, [], .inl 0, []) else none
   else
    bif Nat.ble 51 pc then
     bif Nat.ble 54 pc then
      bif Nat.beq pc 54 then some (.i2l, 1, [], .inl 0, []) else none
     else
      bif Nat.beq pc 51 then some (.invokestatic 358, 3, [3, 1, 1, 1, 100], .inl 0, []) else none
    else
     bif Nat.ble 50 pc then
      bif Nat.beq pc 50 then some (.l2f, 1, [], .inl 0, []) else none
     else
      bif Nat.beq pc 49 then some (.lload_n 2, 1, [], .inl 0, []) else none
  else
   bif Nat.ble 39 pc then
    bif Nat.ble 43 pc then
     bif Nat.ble 44 pc then
      bif Nat.ble 46 pc then
       bif Nat.beq pc 46 then some (.if_icmp .ne 12, 3, [], .inl 0, []) else none
      else
       bif Nat.beq pc 44 then some (.bipush 6, 2, [], .inl (6), []) else none
     else
      bif Nat.beq pc 43 then some (.iload_n 1, 1, [], .inl 0, []) else none
    else
     bif Nat.ble 42 pc then
      bif Nat.beq pc 42 then some (.lreturn, 1, [], .inl 0, []) else none
     else
      bif Nat.beq pc 39 then some (.invokestatic 354, 3, [1, 1, 2, 2, 100], .inl 0, []) else none
   else
    bif Nat.ble 35 pc then
     bif Nat.ble 38 pc then
      bif Nat.beq pc 38 then some (.f2d, 1, [], .inl 0, []) else none
     else
      bif Nat.beq pc 35 then some (.invokestatic 306, 3, [9005], .inl 0, []) else none
    else
     bif Nat.ble 34 pc then
      bif Nat.beq pc 34 then some (.l2i, 1, [], .inl 0, []) else none
     else
      bif Nat.beq pc 33 then some (.lload_n 2, 1, [], .inl 0, []) else none
 else
  bif Nat.ble 13 pc then
   bif Nat.ble 20 pc then
    bif Nat.ble 24 pc then
     bif Nat.ble 27 pc then
      bif Nat.ble 30 pc then
       bif Nat.beq pc 30 then some (.goto 12, 3, [], .inl 0, []) else none
      else
       bif Nat.beq pc 27 then some (.ldc2_w 230, 3, [], .inr (.inl (9221120237041090560)), []) else none
     else
      bif Nat.beq pc 24 then some (.ifCond .ne 9, 3, [], .inl 0, []) else none
    else
     bif Nat.ble 23 pc then
      bif Nat.beq pc 23 then some (.lcmp, 1, [], .inl 0, []) else none
     else
      bif Nat.beq pc 20 then some (.ldc2_w 224, 3, [], .inr (.inl (2143289344)), []) else none
   else
    bif Nat.ble 16 pc then
     bif Nat.ble 19 pc then
      bif Nat.beq pc 19 then some (.lload_n 2, 1, [], .inl 0, []) else none
     else
      bif Nat.beq pc 16 then some (.if_icmp .ne 27, 3, [], .inl 0, []) else none
    else
     bif Nat.ble 14 pc then
      bif Nat.beq pc 14 then some (.bipush 6, 2, [], .inl (6), []) else none
     else
      bif Nat.beq pc 13 then some (.iload_n 0, 1, [], .inl 0, []) else none
  else
   bif Nat.ble 6 pc then
    bif Nat.ble 11 pc then
     bif Nat.ble 12 pc then
      bif Nat.beq pc 12 then some (.lreturn, 1, [], .inl 0, []) else none
     else
      bif Nat.beq pc 11 then some (.lload_n 2, 1, [], .inl 0, []) else none
    else
     bif Nat.ble 8 pc then
      bif Nat.beq pc 8 then some (.if_icmp .ge 5, 3, [], .inl 0, []) else none
     else
      bif Nat.beq pc 6 then some (.bipush 6, 2, [], .inl (6), []) else none
   else
    bif Nat.ble 2 pc then
     bif Nat.ble 5 pc then
      bif Nat.beq pc 5 then some (.iload_n 1, 1, [], .inl 0, []) else none
     else
      bif Nat.beq pc 2 then some (.if_icmp .eq 9, 3, [], .inl 0, []) else none
    else
     bif Nat.ble 1 pc then
      bif Nat.beq pc 1 then some (.iload_n 1, 1, [], .inl 0, []) else none
     else
      bif Nat.beq pc 0 then some (.iload_n 0, 1, [], .inl 0, []) else none
def kX12_keptPart (pc : Nat) : Option Ent := bif Nat.ble 47 pc then none else
 bif Nat.ble 24 pc then
  bif Nat.ble 34 pc then
   bif Nat.ble 39 pc then
    bif Nat.ble 45 pc then
     bif Nat.ble 46 pc then
      bif Nat.beq pc 46 then some (.ireturn, 1, [], .inl 0, []) else none
     else
      bif Nat.beq pc 45 then some (.iconst (-1), 1, [], .inl (-1), []) else none
    else
     bif Nat.ble 42 pc then
      bif Nat.beq pc 42 then some (.goto (-39), 3, [], .inl 0, []) else none
     else
      bif Nat.beq pc 39 then some (.iinc 4 1, 3, [], .inl (1), []) else none
   else
    bif Nat.ble 37 pc then
     bif Nat.ble 38 pc then
      bif Nat.beq pc 38 then some (.ireturn, 1, [], .inl 0, []) else none
     else
      bif Nat.beq pc 37 then some (.iadd, 1, [], .inl 0, []) else none
    else
     bif Nat.ble 35 pc then
      bif Nat.beq pc 35 then some (.iload 4, 2, [], .inl 0, []) else none
     else
      bif Nat.beq pc 34 then some (.imul, 1, [], .inl 0, []) else none
  else
   bif Nat.ble 27 pc then
    bif Nat.ble 31 pc then
     bif Nat.ble 33 pc then
      bif Nat.beq pc 33 then some (.iload_n 1, 1, [], .inl 0, []) else none
     else
      bif Nat.beq pc 31 then some (.bipush 6, 2, [], .inl (6), []) else none
    else
     bif Nat.ble 28 pc then
      bif Nat.beq pc 28 then some (.ifCond .ne 11, 3, [], .inl 0, []) else none
     else
      bif Nat.beq pc 27 then some (.lcmp, 1, [], .inl 0, []) else none
   else
    bif Nat.ble 25 pc then
     bif Nat.ble 26 pc then
      bif Nat.beq pc 26 then some (.lload_n 2, 1, [], .inl 0, []) else none
     else
      bif Nat.beq pc 25 then some (.laload, 1, [], .inl 0, []) else none
    else
     bif Nat.beq pc 24 then some (.iadd, 1, [], .inl 0, []) else none
 else
  bif Nat.ble 11 pc then
   bif Nat.ble 18 pc then
    bif Nat.ble 21 pc then
     bif Nat.ble 22 pc then
      bif Nat.beq pc 22 then some (.iload 4, 2, [], .inl 0, []) else none
     else
      bif Nat.beq pc 21 then some (.imul, 1, [], .inl 0, []) else none
    else
     bif Nat.ble 20 pc then
      bif Nat.beq pc 20 then some (.iload_n 1, 1, [], .inl 0, []) else none
     else
      bif Nat.beq pc 18 then some (.bipush 6, 2, [], .inl (6), []) else none
   else
    bif Nat.ble 14 pc then
     bif Nat.ble 15 pc then
      bif Nat.beq pc 15 then some (.getfield 124, 3, [12, 817, 2], .inl 0, []) else none
     else
      bif Nat.beq pc 14 then some (.aload_n 0, 1, [], .inl 0, []) else none
    else
     bif Nat.beq pc 11 then some (.if_icmp .ge 34, 3, [], .inl 0, []) else none
  else
   bif Nat.ble 5 pc then
    bif Nat.ble 9 pc then
     bif Nat.ble 10 pc then
      bif Nat.beq pc 10 then some (.iaload, 1, [], .inl 0, []) else none
     else
      bif Nat.beq pc 9 then some (.iload_n 1, 1, [], .inl 0, []) else none
    else
     bif Nat.ble 6 pc then
      bif Nat.beq pc 6 then some (.getfield 121, 3, [12, 816, 2], .inl 0, []) else none
     else
      bif Nat.beq pc 5 then some (.aload_n 0, 1, [], .inl 0, []) else none
   else
    bif Nat.ble 1 pc then
     bif Nat.ble 3 pc then
      bif Nat.beq pc 3 then some (.iload 4, 2, [], .inl 0, [3]) else none
     else
      bif Nat.beq pc 1 then some (.istore 4, 2, [], .inl 0, []) else none
    else
     bif Nat.beq pc 0 then some (.iconst 0, 1, [], .inl (0), []) else none
def kX12_brings (pc : Nat) : Option Ent := bif Nat.ble 318 pc then none else
 bif Nat.ble 163 pc then
  bif Nat.ble 238 pc then
   bif Nat.ble 279 pc then
    bif Nat.ble 299 pc then
     bif Nat.ble 308 pc then
      bif Nat.ble 313 pc then
       bif Nat.ble 316 pc then
        bif Nat.ble 317 pc then
         bif Nat.beq pc 317 then some (.ireturn, 1, [], .inl 0, []) else none
        else
         bif Nat.beq pc 316 then some (.iconst 0, 1, [], .inl (0), [0, 1, 2, 3, 4, 5, 6, 7, 8, 9]) else none
       else
        bif Nat.beq pc 313 then some (.invokevirtual 380, 3, [221, 2, 0, 3, 12], .inl 0, []) else none
      else
       bif Nat.ble 311 pc then
        bif Nat.ble 312 pc then
         bif Nat.beq pc 312 then some (.iload_n 2, 1, [], .inl 0, []) else none
        else
         bif Nat.beq pc 311 then some (.aload_n 0, 1, [], .inl 0, []) else none
       else
        bif Nat.beq pc 308 then some (.if_icmp .ne 8, 3, [], .inl 0, []) else none
     else
      bif Nat.ble 301 pc then
       bif Nat.ble 304 pc then
        bif Nat.ble 306 pc then
         bif Nat.beq pc 306 then some (.bipush 10, 2, [], .inl (10), []) else none
        else
         bif Nat.beq pc 304 then some (.iload 4, 2, [], .inl 0, [1, 3, 5, 6, 7, 8, 9]) else none
       else
        bif Nat.beq pc 301 then some (.invokevirtual 376, 3, [220, 3, 0, 5, 12], .inl 0, []) else none
      else
       bif Nat.ble 300 pc then
        bif Nat.beq pc 300 then some (.iload_n 2, 1, [], .inl 0, []) else none
       else
        bif Nat.beq pc 299 then some (.iaload, 1, [], .inl 0, []) else none
    else
     bif Nat.ble 288 pc then
      bif Nat.ble 294 pc then
       bif Nat.ble 295 pc then
        bif Nat.ble 298 pc then
         bif Nat.beq pc 298 then some (.iload_n 1, 1, [], .inl 0, []) else none
        else
         bif Nat.beq pc 295 then some (.getfield 33, 3, [12, 777, 2], .inl 0, []) else none
       else
        bif Nat.beq pc 294 then some (.aload_n 0, 1, [], .inl 0, []) else none
      else
       bif Nat.ble 290 pc then
        bif Nat.ble 293 pc then
         bif Nat.beq pc 293 then some (.aload_n 0, 1, [], .inl 0, []) else none
        else
         bif Nat.beq pc 290 then some (.if_icmp .ne 14, 3, [], .inl 0, []) else none
       else
        bif Nat.beq pc 288 then some (.bipush 9, 2, [], .inl (9), []) else none
     else
      bif Nat.ble 284 pc then
       bif Nat.ble 285 pc then
        bif Nat.ble 286 pc then
         bif Nat.beq pc 286 then some (.iload 4, 2, [], .inl 0, []) else none
        else
         bif Nat.beq pc 285 then some (.ireturn, 1, [], .inl 0, [0, 1, 2, 3, 4, 5, 6, 7, 8, 9]) else none
       else
        bif Nat.beq pc 284 then some (.iconst 0, 1, [], .inl (0), [0, 1, 2, 3, 4, 5, 6, 7, 8, 9]) else none
      else
       bif Nat.ble 281 pc then
        bif Nat.beq pc 281 then some (.goto 4, 3, [], .inl 0, []) else none
       else
        bif Nat.beq pc 279 then some (.bipush 8, 2, [], .inl (8), []) else none
   else
    bif Nat.ble 257 pc then
     bif Nat.ble 265 pc then
      bif Nat.ble 273 pc then
       bif Nat.ble 274 pc then
        bif Nat.ble 276 pc then
         bif Nat.beq pc 276 then some (.if_icmp .ne 8, 3, [], .inl 0, []) else none
        else
         bif Nat.beq pc 274 then some (.bipush 8, 2, [], .inl (8), []) else none
       else
        bif Nat.beq pc 273 then some (.iload_n 3, 1, [], .inl 0, []) else none
      else
       bif Nat.ble 268 pc then
        bif Nat.ble 270 pc then
         bif Nat.beq pc 270 then some (.ifCond .eq 14, 3, [], .inl 0, []) else none
        else
         bif Nat.beq pc 268 then some (.iload 9, 2, [], .inl 0, []) else none
       else
        bif Nat.beq pc 265 then some (.putfield 369, 3, [12, 830, 1], .inl 0, [0, 1, 2, 4, 5, 6, 7, 8]) else none
     else
      bif Nat.ble 261 pc then
       bif Nat.ble 262 pc then
        bif Nat.ble 264 pc then
         bif Nat.beq pc 264 then some (.lshl, 1, [], .inl 0, []) else none
        else
         bif Nat.beq pc 262 then some (.iload 8, 2, [], .inl 0, []) else none
       else
        bif Nat.beq pc 261 then some (.lconst 1, 1, [], .inr (.inl (1)), []) else none
      else
       bif Nat.ble 258 pc then
        bif Nat.beq pc 258 then some (.goto 7, 3, [], .inl 0, []) else none
       else
        bif Nat.beq pc 257 then some (.lconst 0, 1, [], .inr (.inl (0)), []) else none
    else
     bif Nat.ble 247 pc then
      bif Nat.ble 251 pc then
       bif Nat.ble 253 pc then
        bif Nat.ble 254 pc then
         bif Nat.beq pc 254 then some (.if_icmp .ne 7, 3, [], .inl 0, []) else none
        else
         bif Nat.beq pc 253 then some (.iconst (-1), 1, [], .inl (-1), []) else none
       else
        bif Nat.beq pc 251 then some (.iload 8, 2, [], .inl 0, []) else none
      else
       bif Nat.ble 248 pc then
        bif Nat.beq pc 248 then some (.goto 17, 3, [], .inl 0, []) else none
       else
        bif Nat.beq pc 247 then some (.i2l, 1, [], .inl 0, []) else none
     else
      bif Nat.ble 240 pc then
       bif Nat.ble 242 pc then
        bif Nat.ble 245 pc then
         bif Nat.beq pc 245 then some (.iload 8, 2, [], .inl 0, []) else none
        else
         bif Nat.beq pc 242 then some (.if_icmp .ne 9, 3, [], .inl 0, []) else none
       else
        bif Nat.beq pc 240 then some (.bipush 8, 2, [], .inl (8), []) else none
      else
       bif Nat.ble 239 pc then
        bif Nat.beq pc 239 then some (.iload_n 3, 1, [], .inl 0, []) else none
       else
        bif Nat.beq pc 238 then some (.aload_n 0, 1, [], .inl 0, []) else none
  else
   bif Nat.ble 197 pc then
    bif Nat.ble 215 pc then
     bif Nat.ble 226 pc then
      bif Nat.ble 233 pc then
       bif Nat.ble 234 pc then
        bif Nat.ble 235 pc then
         bif Nat.beq pc 235 then some (.putfield 373, 3, [12, 828, 0], .inl 0, []) else none
        else
         bif Nat.beq pc 234 then some (.iadd, 1, [], .inl 0, [1, 2, 4, 5, 6, 7]) else none
       else
        bif Nat.beq pc 233 then some (.iconst 0, 1, [], .inl (0), [1, 2, 4, 5, 6, 7]) else none
      else
       bif Nat.ble 229 pc then
        bif Nat.ble 230 pc then
         bif Nat.beq pc 230 then some (.goto 4, 3, [], .inl 0, []) else none
        else
         bif Nat.beq pc 229 then some (.iconst 1, 1, [], .inl (1), []) else none
       else
        bif Nat.beq pc 226 then some (.if_icmp .ne 7, 3, [], .inl 0, []) else none
     else
      bif Nat.ble 220 pc then
       bif Nat.ble 223 pc then
        bif Nat.ble 224 pc then
         bif Nat.beq pc 224 then some (.bipush 9, 2, [], .inl (9), []) else none
        else
         bif Nat.beq pc 223 then some (.iload_n 3, 1, [], .inl 0, []) else none
       else
        bif Nat.beq pc 220 then some (.ifCond .eq 13, 3, [], .inl 0, []) else none
      else
       bif Nat.ble 218 pc then
        bif Nat.beq pc 218 then some (.iload 9, 2, [], .inl 0, []) else none
       else
        bif Nat.beq pc 215 then some (.getfield 373, 3, [12, 828, 0], .inl 0, []) else none
    else
     bif Nat.ble 207 pc then
      bif Nat.ble 211 pc then
       bif Nat.ble 213 pc then
        bif Nat.ble 214 pc then
         bif Nat.beq pc 214 then some (.dup, 1, [], .inl 0, []) else none
        else
         bif Nat.beq pc 213 then some (.aload_n 0, 1, [], .inl 0, []) else none
       else
        bif Nat.beq pc 211 then some (.istore 9, 2, [], .inl 0, [1, 2, 4, 5, 6, 7, 9]) else none
      else
       bif Nat.ble 210 pc then
        bif Nat.beq pc 210 then some (.iconst 0, 1, [], .inl (0), [1, 2, 4, 5, 6, 7, 9]) else none
       else
        bif Nat.beq pc 207 then some (.goto 4, 3, [], .inl 0, []) else none
     else
      bif Nat.ble 202 pc then
       bif Nat.ble 203 pc then
        bif Nat.ble 206 pc then
         bif Nat.beq pc 206 then some (.iconst 1, 1, [], .inl (1), []) else none
        else
         bif Nat.beq pc 203 then some (.if_icmp .ne 7, 3, [], .inl 0, []) else none
       else
        bif Nat.beq pc 202 then some (.iconst (-1), 1, [], .inl (-1), []) else none
      else
       bif Nat.ble 200 pc then
        bif Nat.beq pc 200 then some (.iload 8, 2, [], .inl 0, []) else none
       else
        bif Nat.beq pc 197 then some (.ifCond .lt 13, 3, [], .inl 0, []) else none
   else
    bif Nat.ble 179 pc then
     bif Nat.ble 187 pc then
      bif Nat.ble 193 pc then
       bif Nat.ble 195 pc then
        bif Nat.ble 196 pc then
         bif Nat.beq pc 196 then some (.lcmp, 1, [], .inl 0, []) else none
        else
         bif Nat.beq pc 195 then some (.lconst 0, 1, [], .inr (.inl (0)), []) else none
       else
        bif Nat.beq pc 193 then some (.lload 5, 2, [], .inl 0, []) else none
      else
       bif Nat.ble 188 pc then
        bif Nat.ble 191 pc then
         bif Nat.beq pc 191 then some (.istore 8, 2, [], .inl 0, [1, 2, 4, 6, 7, 8, 9]) else none
        else
         bif Nat.beq pc 188 then some (.invokevirtual 196, 3, [165, 3, 1, 5, 12], .inl 0, []) else none
       else
        bif Nat.beq pc 187 then some (.laload, 1, [], .inl 0, []) else none
     else
      bif Nat.ble 183 pc then
       bif Nat.ble 185 pc then
        bif Nat.ble 186 pc then
         bif Nat.beq pc 186 then some (.imul, 1, [], .inl 0, []) else none
        else
         bif Nat.beq pc 185 then some (.iload_n 2, 1, [], .inl 0, []) else none
       else
        bif Nat.beq pc 183 then some (.bipush 16, 2, [], .inl (16), []) else none
      else
       bif Nat.ble 180 pc then
        bif Nat.beq pc 180 then some (.getfield 136, 3, [12, 821, 2], .inl 0, []) else none
       else
        bif Nat.beq pc 179 then some (.aload_n 0, 1, [], .inl 0, []) else none
    else
     bif Nat.ble 172 pc then
      bif Nat.ble 174 pc then
       bif Nat.ble 177 pc then
        bif Nat.ble 178 pc then
         bif Nat.beq pc 178 then some (.iaload, 1, [], .inl 0, []) else none
        else
         bif Nat.beq pc 177 then some (.iload_n 1, 1, [], .inl 0, []) else none
       else
        bif Nat.beq pc 174 then some (.getfield 33, 3, [12, 777, 2], .inl 0, []) else none
      else
       bif Nat.ble 173 pc then
        bif Nat.beq pc 173 then some (.aload_n 0, 1, [], .inl 0, []) else none
       else
        bif Nat.beq pc 172 then some (.aload_n 0, 1, [], .inl 0, []) else none
     else
      bif Nat.ble 165 pc then
       bif Nat.ble 168 pc then
        bif Nat.ble 169 pc then
         bif Nat.beq pc 169 then some (.goto 22, 3, [], .inl 0, []) else none
        else
         bif Nat.beq pc 168 then some (.iconst (-1), 1, [], .inl (-1), []) else none
       else
        bif Nat.beq pc 165 then some (.ifCond .ge 7, 3, [], .inl 0, []) else none
      else
       bif Nat.ble 164 pc then
        bif Nat.beq pc 164 then some (.lcmp, 1, [], .inl 0, []) else none
       else
        bif Nat.beq pc 163 then some (.lconst 0, 1, [], .inr (.inl (0)), []) else none
 else
  bif Nat.ble 79 pc then
   bif Nat.ble 122 pc then
    bif Nat.ble 142 pc then
     bif Nat.ble 151 pc then
      bif Nat.ble 156 pc then
       bif Nat.ble 158 pc then
        bif Nat.ble 161 pc then
         bif Nat.beq pc 161 then some (.lload 5, 2, [], .inl 0, []) else none
        else
         bif Nat.beq pc 158 then some (.if_icmp .ne 128, 3, [], .inl 0, []) else none
       else
        bif Nat.beq pc 156 then some (.bipush 8, 2, [], .inl (8), []) else none
      else
       bif Nat.ble 153 pc then
        bif Nat.ble 154 pc then
         bif Nat.beq pc 154 then some (.iload 4, 2, [], .inl 0, [6, 7, 8, 9]) else none
        else
         bif Nat.beq pc 153 then some (.ireturn, 1, [], .inl 0, []) else none
       else
        bif Nat.beq pc 151 then some (.bipush 6, 2, [], .inl (6), [0, 1, 2, 3, 4, 5, 6, 7, 8, 9]) else none
     else
      bif Nat.ble 146 pc then
       bif Nat.ble 147 pc then
        bif Nat.ble 148 pc then
         bif Nat.beq pc 148 then some (.if_icmp .eq 6, 3, [], .inl 0, []) else none
        else
         bif Nat.beq pc 147 then some (.iaload, 1, [], .inl 0, []) else none
       else
        bif Nat.beq pc 146 then some (.iload_n 1, 1, [], .inl 0, []) else none
      else
       bif Nat.ble 143 pc then
        bif Nat.beq pc 143 then some (.getfield 33, 3, [12, 777, 2], .inl 0, []) else none
       else
        bif Nat.beq pc 142 then some (.aload_n 0, 1, [], .inl 0, []) else none
    else
     bif Nat.ble 133 pc then
      bif Nat.ble 137 pc then
       bif Nat.ble 140 pc then
        bif Nat.ble 141 pc then
         bif Nat.beq pc 141 then some (.iaload, 1, [], .inl 0, []) else none
        else
         bif Nat.beq pc 140 then some (.iload_n 2, 1, [], .inl 0, []) else none
       else
        bif Nat.beq pc 137 then some (.getfield 130, 3, [12, 819, 2], .inl 0, []) else none
      else
       bif Nat.ble 136 pc then
        bif Nat.beq pc 136 then some (.aload_n 0, 1, [], .inl 0, []) else none
       else
        bif Nat.beq pc 133 then some (.if_icmp .eq 21, 3, [], .inl 0, []) else none
     else
      bif Nat.ble 126 pc then
       bif Nat.ble 129 pc then
        bif Nat.ble 131 pc then
         bif Nat.beq pc 131 then some (.bipush 11, 2, [], .inl (11), []) else none
        else
         bif Nat.beq pc 129 then some (.iload 4, 2, [], .inl 0, []) else none
       else
        bif Nat.beq pc 126 then some (.ifCond .eq 25, 3, [], .inl 0, []) else none
      else
       bif Nat.ble 124 pc then
        bif Nat.beq pc 124 then some (.iload 7, 2, [], .inl 0, []) else none
       else
        bif Nat.beq pc 122 then some (.istore 7, 2, [], .inl 0, [6, 7, 8, 9]) else none
   else
    bif Nat.ble 100 pc then
     bif Nat.ble 111 pc then
      bif Nat.ble 117 pc then
       bif Nat.ble 118 pc then
        bif Nat.ble 121 pc then
         bif Nat.beq pc 121 then some (.iconst 0, 1, [], .inl (0), [6, 7, 8, 9]) else none
        else
         bif Nat.beq pc 118 then some (.goto 4, 3, [], .inl 0, []) else none
       else
        bif Nat.beq pc 117 then some (.iconst 1, 1, [], .inl (1), [6, 7, 8, 9]) else none
      else
       bif Nat.ble 112 pc then
        bif Nat.ble 114 pc then
         bif Nat.beq pc 114 then some (.if_icmp .ne 7, 3, [], .inl 0, []) else none
        else
         bif Nat.beq pc 112 then some (.bipush 9, 2, [], .inl (9), []) else none
       else
        bif Nat.beq pc 111 then some (.iload_n 3, 1, [], .inl 0, []) else none
     else
      bif Nat.ble 104 pc then
       bif Nat.ble 106 pc then
        bif Nat.ble 108 pc then
         bif Nat.beq pc 108 then some (.if_icmp .ne 13, 3, [], .inl 0, []) else none
        else
         bif Nat.beq pc 106 then some (.bipush 8, 2, [], .inl (8), []) else none
       else
        bif Nat.beq pc 104 then some (.iload 4, 2, [], .inl 0, []) else none
      else
       bif Nat.ble 101 pc then
        bif Nat.beq pc 101 then some (.if_icmp .eq 16, 3, [], .inl 0, []) else none
       else
        bif Nat.beq pc 100 then some (.iload_n 3, 1, [], .inl 0, []) else none
    else
     bif Nat.ble 91 pc then
      bif Nat.ble 95 pc then
       bif Nat.ble 97 pc then
        bif Nat.ble 98 pc then
         bif Nat.beq pc 98 then some (.iload 4, 2, [], .inl 0, []) else none
        else
         bif Nat.beq pc 97 then some (.ireturn, 1, [], .inl 0, [0, 1, 2, 3, 4, 5, 6, 7, 8, 9]) else none
       else
        bif Nat.beq pc 95 then some (.bipush 6, 2, [], .inl (6), []) else none
      else
       bif Nat.ble 92 pc then
        bif Nat.beq pc 92 then some (.goto 5, 3, [], .inl 0, []) else none
       else
        bif Nat.beq pc 91 then some (.iconst 0, 1, [], .inl (0), []) else none
     else
      bif Nat.ble 83 pc then
       bif Nat.ble 86 pc then
        bif Nat.ble 88 pc then
         bif Nat.beq pc 88 then some (.ifCond .eq 7, 3, [], .inl 0, []) else none
        else
         bif Nat.beq pc 86 then some (.iload 7, 2, [], .inl 0, []) else none
       else
        bif Nat.beq pc 83 then some (.putfield 369, 3, [12, 830, 1], .inl 0, [0, 1, 2, 3, 4, 5, 6, 8, 9]) else none
      else
       bif Nat.ble 82 pc then
        bif Nat.beq pc 82 then some (.lconst 0, 1, [], .inr (.inl (0)), []) else none
       else
        bif Nat.beq pc 79 then some (.goto 4, 3, [], .inl 0, []) else none
  else
   bif Nat.ble 36 pc then
    bif Nat.ble 58 pc then
     bif Nat.ble 66 pc then
      bif Nat.ble 73 pc then
       bif Nat.ble 74 pc then
        bif Nat.ble 76 pc then
         bif Nat.beq pc 76 then some (.invokestatic 365, 3, [217, 3, 2, 4, 100], .inl 0, []) else none
        else
         bif Nat.beq pc 74 then some (.lload 5, 2, [], .inl 0, []) else none
       else
        bif Nat.beq pc 73 then some (.iload_n 3, 1, [], .inl 0, []) else none
      else
       bif Nat.ble 68 pc then
        bif Nat.ble 71 pc then
         bif Nat.beq pc 71 then some (.iload 4, 2, [], .inl 0, []) else none
        else
         bif Nat.beq pc 68 then some (.ifCond .eq 14, 3, [], .inl 0, []) else none
       else
        bif Nat.beq pc 66 then some (.iload 7, 2, [], .inl 0, []) else none
     else
      bif Nat.ble 62 pc then
       bif Nat.ble 63 pc then
        bif Nat.ble 65 pc then
         bif Nat.beq pc 65 then some (.aload_n 0, 1, [], .inl 0, []) else none
        else
         bif Nat.beq pc 63 then some (.istore 7, 2, [], .inl 0, [1, 2, 6, 7, 8, 9]) else none
       else
        bif Nat.beq pc 62 then some (.iconst 0, 1, [], .inl (0), [1, 2, 6, 7, 8, 9]) else none
      else
       bif Nat.ble 59 pc then
        bif Nat.beq pc 59 then some (.goto 4, 3, [], .inl 0, []) else none
       else
        bif Nat.beq pc 58 then some (.iconst 1, 1, [], .inl (1), []) else none
    else
     bif Nat.ble 46 pc then
      bif Nat.ble 51 pc then
       bif Nat.ble 52 pc then
        bif Nat.ble 55 pc then
         bif Nat.beq pc 55 then some (.ifCond .eq 7, 3, [], .inl 0, []) else none
        else
         bif Nat.beq pc 52 then some (.invokestatic 362, 3, [216, 2, 1, 2, 100], .inl 0, []) else none
       else
        bif Nat.beq pc 51 then some (.iload_n 3, 1, [], .inl 0, []) else none
      else
       bif Nat.ble 49 pc then
        bif Nat.beq pc 49 then some (.iload 4, 2, [], .inl 0, []) else none
       else
        bif Nat.beq pc 46 then some (.if_icmp .ge 16, 3, [], .inl 0, []) else none
     else
      bif Nat.ble 40 pc then
       bif Nat.ble 43 pc then
        bif Nat.ble 44 pc then
         bif Nat.beq pc 44 then some (.bipush 8, 2, [], .inl (8), []) else none
        else
         bif Nat.beq pc 43 then some (.iload_n 3, 1, [], .inl 0, []) else none
       else
        bif Nat.beq pc 40 then some (.if_icmp .ge 22, 3, [], .inl 0, []) else none
      else
       bif Nat.ble 38 pc then
        bif Nat.beq pc 38 then some (.bipush 8, 2, [], .inl (8), []) else none
       else
        bif Nat.beq pc 36 then some (.iload 4, 2, [], .inl 0, [1, 2, 6, 7, 8, 9]) else none
   else
    bif Nat.ble 15 pc then
     bif Nat.ble 23 pc then
      bif Nat.ble 30 pc then
       bif Nat.ble 31 pc then
        bif Nat.ble 33 pc then
         bif Nat.beq pc 33 then some (.if_icmp .ge 65, 3, [], .inl 0, []) else none
        else
         bif Nat.beq pc 31 then some (.bipush 8, 2, [], .inl (8), []) else none
       else
        bif Nat.beq pc 30 then some (.iload_n 3, 1, [], .inl 0, []) else none
      else
       bif Nat.ble 25 pc then
        bif Nat.ble 27 pc then
         bif Nat.beq pc 27 then some (.if_icmp .lt 9, 3, [], .inl 0, []) else none
        else
         bif Nat.beq pc 25 then some (.bipush 8, 2, [], .inl (8), []) else none
       else
        bif Nat.beq pc 23 then some (.iload 4, 2, [], .inl 0, []) else none
     else
      bif Nat.ble 19 pc then
       bif Nat.ble 20 pc then
        bif Nat.ble 21 pc then
         bif Nat.beq pc 21 then some (.lstore 5, 2, [], .inl 0, []) else none
        else
         bif Nat.beq pc 20 then some (.laload, 1, [], .inl 0, []) else none
       else
        bif Nat.beq pc 19 then some (.iload_n 2, 1, [], .inl 0, []) else none
      else
       bif Nat.ble 16 pc then
        bif Nat.beq pc 16 then some (.getfield 133, 3, [12, 820, 2], .inl 0, []) else none
       else
        bif Nat.beq pc 15 then some (.aload_n 0, 1, [], .inl 0, []) else none
    else
     bif Nat.ble 7 pc then
      bif Nat.ble 11 pc then
       bif Nat.ble 12 pc then
        bif Nat.ble 13 pc then
         bif Nat.beq pc 13 then some (.istore 4, 2, [], .inl 0, []) else none
        else
         bif Nat.beq pc 12 then some (.iaload, 1, [], .inl 0, []) else none
       else
        bif Nat.beq pc 11 then some (.iload_n 2, 1, [], .inl 0, []) else none
      else
       bif Nat.ble 8 pc then
        bif Nat.beq pc 8 then some (.getfield 127, 3, [12, 818, 2], .inl 0, []) else none
       else
        bif Nat.beq pc 7 then some (.aload_n 0, 1, [], .inl 0, []) else none
     else
      bif Nat.ble 4 pc then
       bif Nat.ble 5 pc then
        bif Nat.ble 6 pc then
         bif Nat.beq pc 6 then some (.istore_n 3, 1, [], .inl 0, []) else none
        else
         bif Nat.beq pc 5 then some (.iaload, 1, [], .inl 0, []) else none
       else
        bif Nat.beq pc 4 then some (.iload_n 1, 1, [], .inl 0, []) else none
      else
       bif Nat.ble 1 pc then
        bif Nat.beq pc 1 then some (.getfield 30, 3, [12, 776, 2], .inl 0, []) else none
       else
        bif Nat.beq pc 0 then some (.aload_n 0, 1, [], .inl 0, []) else none
def kX12_bringSet (pc : Nat) : Option Ent := bif Nat.ble 85 pc then none else
 bif Nat.ble 37 pc then
  bif Nat.ble 60 pc then
   bif Nat.ble 71 pc then
    bif Nat.ble 75 pc then
     bif Nat.ble 81 pc then
      bif Nat.ble 84 pc then
       bif Nat.beq pc 84 then some (.return_, 1, [], .inl 0, []) else none
      else
       bif Nat.beq pc 81 then some (.goto (-74), 3, [], .inl 0, []) else none
     else
      bif Nat.ble 78 pc then
       bif Nat.beq pc 78 then some (.iinc 3 1, 3, [], .inl (1), []) else none
      else
       bif Nat.beq pc 75 then some (.putfield 369, 3, [12, 830, 1], .inl 0, []) else none
    else
     bif Nat.ble 73 pc then
      bif Nat.ble 74 pc then
       bif Nat.beq pc 74 then some (.lor, 1, [], .inl 0, []) else none
      else
       bif Nat.beq pc 73 then some (.lshl, 1, [], .inl 0, []) else none
     else
      bif Nat.beq pc 71 then some (.iload 4, 2, [], .inl 0, []) else none
   else
    bif Nat.ble 66 pc then
     bif Nat.ble 67 pc then
      bif Nat.ble 70 pc then
       bif Nat.beq pc 70 then some (.lconst 1, 1, [], .inr (.inl (1)), []) else none
      else
       bif Nat.beq pc 67 then some (.goto 7, 3, [], .inl 0, []) else none
     else
      bif Nat.beq pc 66 then some (.lconst 0, 1, [], .inr (.inl (0)), []) else none
    else
     bif Nat.ble 62 pc then
      bif Nat.ble 63 pc then
       bif Nat.beq pc 63 then some (.if_icmp .ne 7, 3, [], .inl 0, []) else none
      else
       bif Nat.beq pc 62 then some (.iconst (-1), 1, [], .inl (-1), []) else none
     else
      bif Nat.beq pc 60 then some (.iload 4, 2, [], .inl 0, []) else none
  else
   bif Nat.ble 50 pc then
    bif Nat.ble 55 pc then
     bif Nat.ble 56 pc then
      bif Nat.ble 57 pc then
       bif Nat.beq pc 57 then some (.getfield 369, 3, [12, 830, 1], .inl 0, []) else none
      else
       bif Nat.beq pc 56 then some (.dup, 1, [], .inl 0, []) else none
     else
      bif Nat.beq pc 55 then some (.aload_n 0, 1, [], .inl 0, []) else none
    else
     bif Nat.ble 51 pc then
      bif Nat.ble 52 pc then
       bif Nat.beq pc 52 then some (.putfield 373, 3, [12, 828, 0], .inl 0, []) else none
      else
       bif Nat.beq pc 51 then some (.iadd, 1, [], .inl 0, []) else none
     else
      bif Nat.beq pc 50 then some (.iconst 0, 1, [], .inl (0), []) else none
   else
    bif Nat.ble 43 pc then
     bif Nat.ble 46 pc then
      bif Nat.ble 47 pc then
       bif Nat.beq pc 47 then some (.goto 4, 3, [], .inl 0, []) else none
      else
       bif Nat.beq pc 46 then some (.iconst 1, 1, [], .inl (1), []) else none
     else
      bif Nat.beq pc 43 then some (.if_icmp .ne 7, 3, [], .inl 0, []) else none
    else
     bif Nat.ble 40 pc then
      bif Nat.ble 42 pc then
       bif Nat.beq pc 42 then some (.iconst (-1), 1, [], .inl (-1), []) else none
      else
       bif Nat.beq pc 40 then some (.iload 4, 2, [], .inl 0, []) else none
     else
      bif Nat.beq pc 37 then some (.getfield 373, 3, [12, 828, 0], .inl 0, []) else none
 else
  bif Nat.ble 18 pc then
   bif Nat.ble 27 pc then
    bif Nat.ble 30 pc then
     bif Nat.ble 35 pc then
      bif Nat.ble 36 pc then
       bif Nat.beq pc 36 then some (.dup, 1, [], .inl 0, []) else none
      else
       bif Nat.beq pc 35 then some (.aload_n 0, 1, [], .inl 0, []) else none
     else
      bif Nat.ble 33 pc then
       bif Nat.beq pc 33 then some (.istore 4, 2, [], .inl 0, []) else none
      else
       bif Nat.beq pc 30 then some (.invokevirtual 196, 3, [165, 3, 1, 5, 12], .inl 0, []) else none
    else
     bif Nat.ble 28 pc then
      bif Nat.ble 29 pc then
       bif Nat.beq pc 29 then some (.laload, 1, [], .inl 0, []) else none
      else
       bif Nat.beq pc 28 then some (.iadd, 1, [], .inl 0, []) else none
     else
      bif Nat.beq pc 27 then some (.iload_n 3, 1, [], .inl 0, []) else none
   else
    bif Nat.ble 23 pc then
     bif Nat.ble 25 pc then
      bif Nat.ble 26 pc then
       bif Nat.beq pc 26 then some (.imul, 1, [], .inl 0, []) else none
      else
       bif Nat.beq pc 25 then some (.iload_n 2, 1, [], .inl 0, []) else none
     else
      bif Nat.beq pc 23 then some (.bipush 16, 2, [], .inl (16), []) else none
    else
     bif Nat.ble 19 pc then
      bif Nat.ble 20 pc then
       bif Nat.beq pc 20 then some (.getfield 136, 3, [12, 821, 2], .inl 0, []) else none
      else
       bif Nat.beq pc 19 then some (.aload_n 0, 1, [], .inl 0, []) else none
     else
      bif Nat.beq pc 18 then some (.iload_n 1, 1, [], .inl 0, []) else none
  else
   bif Nat.ble 8 pc then
    bif Nat.ble 13 pc then
     bif Nat.ble 14 pc then
      bif Nat.ble 17 pc then
       bif Nat.beq pc 17 then some (.aload_n 0, 1, [], .inl 0, []) else none
      else
       bif Nat.beq pc 14 then some (.if_icmp .ge 70, 3, [], .inl 0, []) else none
     else
      bif Nat.beq pc 13 then some (.iaload, 1, [], .inl 0, []) else none
    else
     bif Nat.ble 9 pc then
      bif Nat.ble 12 pc then
       bif Nat.beq pc 12 then some (.iload_n 2, 1, [], .inl 0, []) else none
      else
       bif Nat.beq pc 9 then some (.getfield 139, 3, [12, 822, 2], .inl 0, []) else none
     else
      bif Nat.beq pc 8 then some (.aload_n 0, 1, [], .inl 0, []) else none
   else
    bif Nat.ble 5 pc then
     bif Nat.ble 6 pc then
      bif Nat.ble 7 pc then
       bif Nat.beq pc 7 then some (.iload_n 3, 1, [], .inl 0, [4]) else none
      else
       bif Nat.beq pc 6 then some (.istore_n 3, 1, [], .inl 0, []) else none
     else
      bif Nat.beq pc 5 then some (.iconst 0, 1, [], .inl (0), []) else none
    else
     bif Nat.ble 1 pc then
      bif Nat.ble 2 pc then
       bif Nat.beq pc 2 then some (.putfield 369, 3, [12, 830, 1], .inl 0, []) else none
      else
       bif Nat.beq pc 1 then some (.lconst 0, 1, [], .inr (.inl (0)), []) else none
     else
      bif Nat.beq pc 0 then some (.aload_n 0, 1, [], .inl 0, []) else none
def kX12_bringRow (pc : Nat) : Option Ent := bif Nat.ble 108 pc then none else
 bif Nat.ble 54 pc then
  bif Nat.ble 82 pc then
   bif Nat.ble 93 pc then
    bif Nat.ble 101 pc then
     bif Nat.ble 103 pc then
      bif Nat.ble 104 pc then
       bif Nat.ble 107 pc then
        bif Nat.beq pc 107 then some (.return_, 1, [], .inl 0, []) else none
       else
        bif Nat.beq pc 104 then some (.putfield 369, 3, [12, 830, 1], .inl 0, []) else none
      else
       bif Nat.beq pc 103 then some (.i2l, 1, [], .inl 0, []) else none
     else
      bif Nat.ble 102 pc then
       bif Nat.beq pc 102 then some (.iaload, 1, [], .inl 0, []) else none
      else
       bif Nat.beq pc 101 then some (.iload_n 1, 1, [], .inl 0, []) else none
    else
     bif Nat.ble 97 pc then
      bif Nat.ble 98 pc then
       bif Nat.beq pc 98 then some (.getfield 145, 3, [12, 824, 2], .inl 0, []) else none
      else
       bif Nat.beq pc 97 then some (.aload_n 0, 1, [], .inl 0, []) else none
     else
      bif Nat.ble 96 pc then
       bif Nat.beq pc 96 then some (.aload_n 0, 1, [], .inl 0, []) else none
      else
       bif Nat.beq pc 93 then some (.goto (-40), 3, [], .inl 0, []) else none
   else
    bif Nat.ble 87 pc then
     bif Nat.ble 89 pc then
      bif Nat.ble 90 pc then
       bif Nat.beq pc 90 then some (.iinc 2 1, 3, [], .inl (1), []) else none
      else
       bif Nat.beq pc 89 then some (.lastore, 1, [], .inl 0, []) else none
     else
      bif Nat.ble 88 pc then
       bif Nat.beq pc 88 then some (.laload, 1, [], .inl 0, []) else none
      else
       bif Nat.beq pc 87 then some (.iadd, 1, [], .inl 0, []) else none
    else
     bif Nat.ble 85 pc then
      bif Nat.ble 86 pc then
       bif Nat.beq pc 86 then some (.iload_n 2, 1, [], .inl 0, []) else none
      else
       bif Nat.beq pc 85 then some (.imul, 1, [], .inl 0, []) else none
     else
      bif Nat.ble 84 pc then
       bif Nat.beq pc 84 then some (.iload_n 1, 1, [], .inl 0, []) else none
      else
       bif Nat.beq pc 82 then some (.bipush 16, 2, [], .inl (16), []) else none
  else
   bif Nat.ble 69 pc then
    bif Nat.ble 75 pc then
     bif Nat.ble 77 pc then
      bif Nat.ble 78 pc then
       bif Nat.ble 79 pc then
        bif Nat.beq pc 79 then some (.getfield 136, 3, [12, 821, 2], .inl 0, []) else none
       else
        bif Nat.beq pc 78 then some (.aload_n 0, 1, [], .inl 0, []) else none
      else
       bif Nat.beq pc 77 then some (.iadd, 1, [], .inl 0, []) else none
     else
      bif Nat.ble 76 pc then
       bif Nat.beq pc 76 then some (.iload_n 2, 1, [], .inl 0, []) else none
      else
       bif Nat.beq pc 75 then some (.imul, 1, [], .inl 0, []) else none
    else
     bif Nat.ble 73 pc then
      bif Nat.ble 74 pc then
       bif Nat.beq pc 74 then some (.iaload, 1, [], .inl 0, []) else none
      else
       bif Nat.beq pc 73 then some (.iload_n 1, 1, [], .inl 0, []) else none
     else
      bif Nat.ble 70 pc then
       bif Nat.beq pc 70 then some (.getfield 145, 3, [12, 824, 2], .inl 0, []) else none
      else
       bif Nat.beq pc 69 then some (.aload_n 0, 1, [], .inl 0, []) else none
   else
    bif Nat.ble 60 pc then
     bif Nat.ble 64 pc then
      bif Nat.ble 67 pc then
       bif Nat.beq pc 67 then some (.bipush 16, 2, [], .inl (16), []) else none
      else
       bif Nat.beq pc 64 then some (.getfield 81, 3, [12, 801, 2], .inl 0, []) else none
     else
      bif Nat.ble 63 pc then
       bif Nat.beq pc 63 then some (.aload_n 0, 1, [], .inl 0, []) else none
      else
       bif Nat.beq pc 60 then some (.if_icmp .ge 36, 3, [], .inl 0, []) else none
    else
     bif Nat.ble 58 pc then
      bif Nat.ble 59 pc then
       bif Nat.beq pc 59 then some (.iaload, 1, [], .inl 0, []) else none
      else
       bif Nat.beq pc 58 then some (.iload_n 1, 1, [], .inl 0, []) else none
     else
      bif Nat.ble 55 pc then
       bif Nat.beq pc 55 then some (.getfield 139, 3, [12, 822, 2], .inl 0, []) else none
      else
       bif Nat.beq pc 54 then some (.aload_n 0, 1, [], .inl 0, []) else none
 else
  bif Nat.ble 29 pc then
   bif Nat.ble 41 pc then
    bif Nat.ble 47 pc then
     bif Nat.ble 51 pc then
      bif Nat.ble 52 pc then
       bif Nat.ble 53 pc then
        bif Nat.beq pc 53 then some (.iload_n 2, 1, [], .inl 0, []) else none
       else
        bif Nat.beq pc 52 then some (.istore_n 2, 1, [], .inl 0, []) else none
      else
       bif Nat.beq pc 51 then some (.iconst 0, 1, [], .inl (0), []) else none
     else
      bif Nat.ble 50 pc then
       bif Nat.beq pc 50 then some (.iastore, 1, [], .inl 0, []) else none
      else
       bif Nat.beq pc 47 then some (.invokevirtual 274, 3, [189, 3, 1, 4, 12], .inl 0, []) else none
    else
     bif Nat.ble 45 pc then
      bif Nat.ble 46 pc then
       bif Nat.beq pc 46 then some (.iaload, 1, [], .inl 0, []) else none
      else
       bif Nat.beq pc 45 then some (.iload_n 1, 1, [], .inl 0, []) else none
     else
      bif Nat.ble 42 pc then
       bif Nat.beq pc 42 then some (.getfield 139, 3, [12, 822, 2], .inl 0, []) else none
      else
       bif Nat.beq pc 41 then some (.aload_n 0, 1, [], .inl 0, []) else none
   else
    bif Nat.ble 35 pc then
     bif Nat.ble 39 pc then
      bif Nat.ble 40 pc then
       bif Nat.beq pc 40 then some (.iaload, 1, [], .inl 0, []) else none
      else
       bif Nat.beq pc 39 then some (.iload_n 1, 1, [], .inl 0, []) else none
     else
      bif Nat.ble 36 pc then
       bif Nat.beq pc 36 then some (.getfield 130, 3, [12, 819, 2], .inl 0, []) else none
      else
       bif Nat.beq pc 35 then some (.aload_n 0, 1, [], .inl 0, []) else none
    else
     bif Nat.ble 33 pc then
      bif Nat.ble 34 pc then
       bif Nat.beq pc 34 then some (.aload_n 0, 1, [], .inl 0, []) else none
      else
       bif Nat.beq pc 33 then some (.iload_n 1, 1, [], .inl 0, []) else none
     else
      bif Nat.ble 30 pc then
       bif Nat.beq pc 30 then some (.getfield 145, 3, [12, 824, 2], .inl 0, []) else none
      else
       bif Nat.beq pc 29 then some (.aload_n 0, 1, [], .inl 0, []) else none
  else
   bif Nat.ble 14 pc then
    bif Nat.ble 20 pc then
     bif Nat.ble 24 pc then
      bif Nat.ble 25 pc then
       bif Nat.ble 26 pc then
        bif Nat.beq pc 26 then some (.if_icmp .ne 70, 3, [], .inl 0, []) else none
       else
        bif Nat.beq pc 25 then some (.iconst (-1), 1, [], .inl (-1), []) else none
      else
       bif Nat.beq pc 24 then some (.iaload, 1, [], .inl 0, []) else none
     else
      bif Nat.ble 23 pc then
       bif Nat.beq pc 23 then some (.iload_n 1, 1, [], .inl 0, []) else none
      else
       bif Nat.beq pc 20 then some (.getfield 145, 3, [12, 824, 2], .inl 0, []) else none
    else
     bif Nat.ble 18 pc then
      bif Nat.ble 19 pc then
       bif Nat.beq pc 19 then some (.aload_n 0, 1, [], .inl 0, []) else none
      else
       bif Nat.beq pc 18 then some (.return_, 1, [], .inl 0, []) else none
     else
      bif Nat.ble 15 pc then
       bif Nat.beq pc 15 then some (.ifCond .ge 4, 3, [], .inl 0, []) else none
      else
       bif Nat.beq pc 14 then some (.lcmp, 1, [], .inl 0, []) else none
   else
    bif Nat.ble 8 pc then
     bif Nat.ble 12 pc then
      bif Nat.ble 13 pc then
       bif Nat.beq pc 13 then some (.lconst 0, 1, [], .inr (.inl (0)), []) else none
      else
       bif Nat.beq pc 12 then some (.laload, 1, [], .inl 0, []) else none
     else
      bif Nat.ble 11 pc then
       bif Nat.beq pc 11 then some (.iload_n 1, 1, [], .inl 0, []) else none
      else
       bif Nat.beq pc 8 then some (.getfield 133, 3, [12, 820, 2], .inl 0, []) else none
    else
     bif Nat.ble 4 pc then
      bif Nat.ble 7 pc then
       bif Nat.beq pc 7 then some (.aload_n 0, 1, [], .inl 0, []) else none
      else
       bif Nat.beq pc 4 then some (.putfield 369, 3, [12, 830, 1], .inl 0, []) else none
     else
      bif Nat.ble 1 pc then
       bif Nat.beq pc 1 then some (.ldc2_w 246, 3, [], .inr (.inl (-1)), []) else none
      else
       bif Nat.beq pc 0 then some (.aload_n 0, 1, [], .inl 0, []) else none
def kX12_load (pc : Nat) : Option Ent := bif Nat.ble 402 pc then none else
 bif Nat.ble 199 pc then
  bif Nat.ble 303 pc then
   bif Nat.ble 358 pc then
    bif Nat.ble 379 pc then
     bif Nat.ble 388 pc then
      bif Nat.ble 396 pc then
       bif Nat.ble 400 pc then
        bif Nat.ble 401 pc then
         bif Nat.beq pc 401 then some (.ireturn, 1, [], .inl 0, []) else none
        else
         bif Nat.beq pc 400 then some (.iaload, 1, [], .inl 0, []) else none
       else
        bif Nat.ble 399 pc then
         bif Nat.beq pc 399 then some (.iload_n 1, 1, [], .inl 0, []) else none
        else
         bif Nat.beq pc 396 then some (.getfield 142, 3, [12, 823, 2], .inl 0, []) else none
      else
       bif Nat.ble 392 pc then
        bif Nat.ble 395 pc then
         bif Nat.beq pc 395 then some (.aload_n 0, 1, [], .inl 0, []) else none
        else
         bif Nat.beq pc 392 then some (.goto 9, 3, [], .inl 0, []) else none
       else
        bif Nat.ble 391 pc then
         bif Nat.beq pc 391 then some (.iload_n 3, 1, [], .inl 0, []) else none
        else
         bif Nat.beq pc 388 then some (.ifCond .eq 7, 3, [], .inl 0, []) else none
     else
      bif Nat.ble 382 pc then
       bif Nat.ble 384 pc then
        bif Nat.ble 387 pc then
         bif Nat.beq pc 387 then some (.iload_n 3, 1, [], .inl 0, []) else none
        else
         bif Nat.beq pc 384 then some (.goto (-331), 3, [], .inl 0, []) else none
       else
        bif Nat.ble 383 pc then
         bif Nat.beq pc 383 then some (.iastore, 1, [], .inl 0, []) else none
        else
         bif Nat.beq pc 382 then some (.iadd, 1, [], .inl 0, []) else none
      else
       bif Nat.ble 380 pc then
        bif Nat.ble 381 pc then
         bif Nat.beq pc 381 then some (.iconst 1, 1, [], .inl (1), []) else none
        else
         bif Nat.beq pc 380 then some (.iaload, 1, [], .inl 0, []) else none
       else
        bif Nat.beq pc 379 then some (.dup2, 1, [], .inl 0, []) else none
    else
     bif Nat.ble 367 pc then
      bif Nat.ble 373 pc then
       bif Nat.ble 377 pc then
        bif Nat.ble 378 pc then
         bif Nat.beq pc 378 then some (.isub, 1, [], .inl 0, []) else none
        else
         bif Nat.beq pc 377 then some (.iconst 1, 1, [], .inl (1), []) else none
       else
        bif Nat.ble 376 pc then
         bif Nat.beq pc 376 then some (.iload_n 2, 1, [], .inl 0, []) else none
        else
         bif Nat.beq pc 373 then some (.getfield 151, 3, [12, 826, 2], .inl 0, []) else none
      else
       bif Nat.ble 371 pc then
        bif Nat.ble 372 pc then
         bif Nat.beq pc 372 then some (.aload_n 0, 1, [], .inl 0, []) else none
        else
         bif Nat.beq pc 371 then some (.lastore, 1, [], .inl 0, []) else none
       else
        bif Nat.ble 368 pc then
         bif Nat.beq pc 368 then some (.getfield 369, 3, [12, 830, 1], .inl 0, []) else none
        else
         bif Nat.beq pc 367 then some (.aload_n 0, 1, [], .inl 0, []) else none
     else
      bif Nat.ble 362 pc then
       bif Nat.ble 364 pc then
        bif Nat.ble 366 pc then
         bif Nat.beq pc 366 then some (.iadd, 1, [], .inl 0, []) else none
        else
         bif Nat.beq pc 364 then some (.iload 6, 2, [], .inl 0, []) else none
       else
        bif Nat.ble 363 pc then
         bif Nat.beq pc 363 then some (.imul, 1, [], .inl 0, []) else none
        else
         bif Nat.beq pc 362 then some (.isub, 1, [], .inl 0, []) else none
      else
       bif Nat.ble 360 pc then
        bif Nat.ble 361 pc then
         bif Nat.beq pc 361 then some (.iconst 1, 1, [], .inl (1), []) else none
        else
         bif Nat.beq pc 360 then some (.iload_n 2, 1, [], .inl 0, []) else none
       else
        bif Nat.beq pc 358 then some (.bipush 6, 2, [], .inl (6), []) else none
   else
    bif Nat.ble 329 pc then
     bif Nat.ble 343 pc then
      bif Nat.ble 352 pc then
       bif Nat.ble 354 pc then
        bif Nat.ble 355 pc then
         bif Nat.beq pc 355 then some (.getfield 157, 3, [12, 829, 2], .inl 0, []) else none
        else
         bif Nat.beq pc 354 then some (.aload_n 0, 1, [], .inl 0, []) else none
       else
        bif Nat.ble 353 pc then
         bif Nat.beq pc 353 then some (.istore_n 3, 1, [], .inl 0, []) else none
        else
         bif Nat.beq pc 352 then some (.iconst 0, 1, [], .inl (0), []) else none
      else
       bif Nat.ble 346 pc then
        bif Nat.ble 349 pc then
         bif Nat.beq pc 349 then some (.goto 4, 3, [], .inl 0, []) else none
        else
         bif Nat.beq pc 346 then some (.invokevirtual 293, 3, [198, 6, 1, 6, 12], .inl 0, []) else none
       else
        bif Nat.ble 344 pc then
         bif Nat.beq pc 344 then some (.iload 4, 2, [], .inl 0, []) else none
        else
         bif Nat.beq pc 343 then some (.iconst (-1), 1, [], .inl (-1), []) else none
     else
      bif Nat.ble 336 pc then
       bif Nat.ble 339 pc then
        bif Nat.ble 341 pc then
         bif Nat.beq pc 341 then some (.iload 6, 2, [], .inl 0, []) else none
        else
         bif Nat.beq pc 339 then some (.iload 5, 2, [], .inl 0, []) else none
       else
        bif Nat.ble 337 pc then
         bif Nat.beq pc 337 then some (.iload 9, 2, [], .inl 0, []) else none
        else
         bif Nat.beq pc 336 then some (.aload_n 0, 1, [], .inl 0, []) else none
      else
       bif Nat.ble 331 pc then
        bif Nat.ble 333 pc then
         bif Nat.beq pc 333 then some (.ifCond .eq 19, 3, [], .inl 0, []) else none
        else
         bif Nat.beq pc 331 then some (.iload 9, 2, [], .inl 0, []) else none
       else
        bif Nat.beq pc 329 then some (.istore 9, 2, [], .inl 0, []) else none
    else
     bif Nat.ble 316 pc then
      bif Nat.ble 321 pc then
       bif Nat.ble 324 pc then
        bif Nat.ble 326 pc then
         bif Nat.beq pc 326 then some (.invokevirtual 386, 3, [223, 3, 1, 4, 12], .inl 0, []) else none
        else
         bif Nat.beq pc 324 then some (.iload 7, 2, [], .inl 0, []) else none
       else
        bif Nat.ble 323 pc then
         bif Nat.beq pc 323 then some (.iadd, 1, [], .inl 0, []) else none
        else
         bif Nat.beq pc 321 then some (.iload 6, 2, [], .inl 0, []) else none
      else
       bif Nat.ble 318 pc then
        bif Nat.ble 320 pc then
         bif Nat.beq pc 320 then some (.imul, 1, [], .inl 0, []) else none
        else
         bif Nat.beq pc 318 then some (.iload 5, 2, [], .inl 0, []) else none
       else
        bif Nat.beq pc 316 then some (.bipush 6, 2, [], .inl (6), []) else none
     else
      bif Nat.ble 308 pc then
       bif Nat.ble 312 pc then
        bif Nat.ble 315 pc then
         bif Nat.beq pc 315 then some (.aload_n 0, 1, [], .inl 0, []) else none
        else
         bif Nat.beq pc 312 then some (.goto 72, 3, [], .inl 0, []) else none
       else
        bif Nat.ble 309 pc then
         bif Nat.beq pc 309 then some (.iinc 2 1, 3, [], .inl (1), []) else none
        else
         bif Nat.beq pc 308 then some (.iastore, 1, [], .inl 0, []) else none
      else
       bif Nat.ble 306 pc then
        bif Nat.ble 307 pc then
         bif Nat.beq pc 307 then some (.iconst 0, 1, [], .inl (0), []) else none
        else
         bif Nat.beq pc 306 then some (.iload_n 2, 1, [], .inl 0, []) else none
       else
        bif Nat.beq pc 303 then some (.getfield 151, 3, [12, 826, 2], .inl 0, []) else none
  else
   bif Nat.ble 253 pc then
    bif Nat.ble 277 pc then
     bif Nat.ble 292 pc then
      bif Nat.ble 299 pc then
       bif Nat.ble 301 pc then
        bif Nat.ble 302 pc then
         bif Nat.beq pc 302 then some (.aload_n 0, 1, [], .inl 0, []) else none
        else
         bif Nat.beq pc 301 then some (.iastore, 1, [], .inl 0, []) else none
       else
        bif Nat.ble 300 pc then
         bif Nat.beq pc 300 then some (.l2i, 1, [], .inl 0, []) else none
        else
         bif Nat.beq pc 299 then some (.laload, 1, [], .inl 0, []) else none
      else
       bif Nat.ble 294 pc then
        bif Nat.ble 297 pc then
         bif Nat.beq pc 297 then some (.iload 7, 2, [], .inl 0, []) else none
        else
         bif Nat.beq pc 294 then some (.getfield 133, 3, [12, 820, 2], .inl 0, []) else none
       else
        bif Nat.ble 293 pc then
         bif Nat.beq pc 293 then some (.aload_n 0, 1, [], .inl 0, []) else none
        else
         bif Nat.beq pc 292 then some (.iload_n 2, 1, [], .inl 0, []) else none
     else
      bif Nat.ble 283 pc then
       bif Nat.ble 288 pc then
        bif Nat.ble 289 pc then
         bif Nat.beq pc 289 then some (.getfield 148, 3, [12, 825, 2], .inl 0, []) else none
        else
         bif Nat.beq pc 288 then some (.aload_n 0, 1, [], .inl 0, []) else none
       else
        bif Nat.ble 285 pc then
         bif Nat.beq pc 285 then some (.ifCond .eq 30, 3, [], .inl 0, []) else none
        else
         bif Nat.beq pc 283 then some (.iload 8, 2, [], .inl 0, []) else none
      else
       bif Nat.ble 280 pc then
        bif Nat.ble 281 pc then
         bif Nat.beq pc 281 then some (.istore 8, 2, [], .inl 0, []) else none
        else
         bif Nat.beq pc 280 then some (.iconst 0, 1, [], .inl (0), []) else none
       else
        bif Nat.beq pc 277 then some (.goto 4, 3, [], .inl 0, []) else none
    else
     bif Nat.ble 264 pc then
      bif Nat.ble 271 pc then
       bif Nat.ble 273 pc then
        bif Nat.ble 276 pc then
         bif Nat.beq pc 276 then some (.iconst 1, 1, [], .inl (1), []) else none
        else
         bif Nat.beq pc 273 then some (.if_icmp .ne 7, 3, [], .inl 0, []) else none
       else
        bif Nat.ble 272 pc then
         bif Nat.beq pc 272 then some (.iconst (-1), 1, [], .inl (-1), []) else none
        else
         bif Nat.beq pc 271 then some (.iaload, 1, [], .inl 0, []) else none
      else
       bif Nat.ble 269 pc then
        bif Nat.ble 270 pc then
         bif Nat.beq pc 270 then some (.l2i, 1, [], .inl 0, []) else none
        else
         bif Nat.beq pc 269 then some (.laload, 1, [], .inl 0, []) else none
       else
        bif Nat.ble 267 pc then
         bif Nat.beq pc 267 then some (.iload 7, 2, [], .inl 0, []) else none
        else
         bif Nat.beq pc 264 then some (.getfield 133, 3, [12, 820, 2], .inl 0, []) else none
     else
      bif Nat.ble 256 pc then
       bif Nat.ble 260 pc then
        bif Nat.ble 263 pc then
         bif Nat.beq pc 263 then some (.aload_n 0, 1, [], .inl 0, []) else none
        else
         bif Nat.beq pc 260 then some (.getfield 142, 3, [12, 823, 2], .inl 0, []) else none
       else
        bif Nat.ble 259 pc then
         bif Nat.beq pc 259 then some (.aload_n 0, 1, [], .inl 0, []) else none
        else
         bif Nat.beq pc 256 then some (.ifCond .lt 24, 3, [], .inl 0, []) else none
      else
       bif Nat.ble 254 pc then
        bif Nat.ble 255 pc then
         bif Nat.beq pc 255 then some (.lcmp, 1, [], .inl 0, []) else none
        else
         bif Nat.beq pc 254 then some (.lconst 0, 1, [], .inr (.inl (0)), []) else none
       else
        bif Nat.beq pc 253 then some (.laload, 1, [], .inl 0, []) else none
   else
    bif Nat.ble 225 pc then
     bif Nat.ble 236 pc then
      bif Nat.ble 244 pc then
       bif Nat.ble 248 pc then
        bif Nat.ble 251 pc then
         bif Nat.beq pc 251 then some (.iload 7, 2, [], .inl 0, []) else none
        else
         bif Nat.beq pc 248 then some (.getfield 133, 3, [12, 820, 2], .inl 0, []) else none
       else
        bif Nat.ble 247 pc then
         bif Nat.beq pc 247 then some (.aload_n 0, 1, [], .inl 0, []) else none
        else
         bif Nat.beq pc 244 then some (.if_icmp .ne 36, 3, [], .inl 0, []) else none
      else
       bif Nat.ble 241 pc then
        bif Nat.ble 242 pc then
         bif Nat.beq pc 242 then some (.bipush 11, 2, [], .inl (11), []) else none
        else
         bif Nat.beq pc 241 then some (.iaload, 1, [], .inl 0, []) else none
       else
        bif Nat.ble 239 pc then
         bif Nat.beq pc 239 then some (.iload 7, 2, [], .inl 0, []) else none
        else
         bif Nat.beq pc 236 then some (.getfield 127, 3, [12, 818, 2], .inl 0, []) else none
     else
      bif Nat.ble 229 pc then
       bif Nat.ble 232 pc then
        bif Nat.ble 235 pc then
         bif Nat.beq pc 235 then some (.aload_n 0, 1, [], .inl 0, []) else none
        else
         bif Nat.beq pc 232 then some (.if_icmp .ne 48, 3, [], .inl 0, []) else none
       else
        bif Nat.ble 230 pc then
         bif Nat.beq pc 230 then some (.bipush 11, 2, [], .inl (11), []) else none
        else
         bif Nat.beq pc 229 then some (.iaload, 1, [], .inl 0, []) else none
      else
       bif Nat.ble 226 pc then
        bif Nat.ble 228 pc then
         bif Nat.beq pc 228 then some (.iadd, 1, [], .inl 0, []) else none
        else
         bif Nat.beq pc 226 then some (.iload 6, 2, [], .inl 0, []) else none
       else
        bif Nat.beq pc 225 then some (.imul, 1, [], .inl 0, []) else none
    else
     bif Nat.ble 211 pc then
      bif Nat.ble 217 pc then
       bif Nat.ble 221 pc then
        bif Nat.ble 223 pc then
         bif Nat.beq pc 223 then some (.iload 5, 2, [], .inl 0, []) else none
        else
         bif Nat.beq pc 221 then some (.bipush 6, 2, [], .inl (6), []) else none
       else
        bif Nat.ble 218 pc then
         bif Nat.beq pc 218 then some (.getfield 30, 3, [12, 776, 2], .inl 0, []) else none
        else
         bif Nat.beq pc 217 then some (.aload_n 0, 1, [], .inl 0, []) else none
      else
       bif Nat.ble 213 pc then
        bif Nat.ble 214 pc then
         bif Nat.beq pc 214 then some (.if_icmp .eq 66, 3, [], .inl 0, []) else none
        else
         bif Nat.beq pc 213 then some (.iconst (-1), 1, [], .inl (-1), []) else none
       else
        bif Nat.beq pc 211 then some (.iload 7, 2, [], .inl 0, []) else none
     else
      bif Nat.ble 204 pc then
       bif Nat.ble 206 pc then
        bif Nat.ble 209 pc then
         bif Nat.beq pc 209 then some (.istore 7, 2, [], .inl 0, []) else none
        else
         bif Nat.beq pc 206 then some (.invokevirtual 383, 3, [218, 3, 1, 5, 12], .inl 0, []) else none
       else
        bif Nat.ble 205 pc then
         bif Nat.beq pc 205 then some (.laload, 1, [], .inl 0, []) else none
        else
         bif Nat.beq pc 204 then some (.iadd, 1, [], .inl 0, []) else none
      else
       bif Nat.ble 201 pc then
        bif Nat.ble 202 pc then
         bif Nat.beq pc 202 then some (.iload 6, 2, [], .inl 0, []) else none
        else
         bif Nat.beq pc 201 then some (.imul, 1, [], .inl 0, []) else none
       else
        bif Nat.beq pc 199 then some (.iload 5, 2, [], .inl 0, []) else none
 else
  bif Nat.ble 87 pc then
   bif Nat.ble 137 pc then
    bif Nat.ble 167 pc then
     bif Nat.ble 183 pc then
      bif Nat.ble 191 pc then
       bif Nat.ble 194 pc then
        bif Nat.ble 197 pc then
         bif Nat.beq pc 197 then some (.bipush 6, 2, [], .inl (6), []) else none
        else
         bif Nat.beq pc 194 then some (.getfield 27, 3, [12, 775, 2], .inl 0, []) else none
       else
        bif Nat.ble 193 pc then
         bif Nat.beq pc 193 then some (.aload_n 0, 1, [], .inl 0, []) else none
        else
         bif Nat.beq pc 191 then some (.iload 4, 2, [], .inl 0, []) else none
      else
       bif Nat.ble 187 pc then
        bif Nat.ble 190 pc then
         bif Nat.beq pc 190 then some (.aload_n 0, 1, [], .inl 0, []) else none
        else
         bif Nat.beq pc 187 then some (.goto 197, 3, [], .inl 0, []) else none
       else
        bif Nat.ble 184 pc then
         bif Nat.beq pc 184 then some (.iinc 2 (-1), 3, [], .inl (-1), []) else none
        else
         bif Nat.beq pc 183 then some (.iastore, 1, [], .inl 0, []) else none
     else
      bif Nat.ble 174 pc then
       bif Nat.ble 178 pc then
        bif Nat.ble 181 pc then
         bif Nat.beq pc 181 then some (.iload 7, 2, [], .inl 0, []) else none
        else
         bif Nat.beq pc 178 then some (.goto 5, 3, [], .inl 0, []) else none
       else
        bif Nat.ble 177 pc then
         bif Nat.beq pc 177 then some (.iconst (-1), 1, [], .inl (-1), []) else none
        else
         bif Nat.beq pc 174 then some (.ifCond .ge 7, 3, [], .inl 0, []) else none
      else
       bif Nat.ble 170 pc then
        bif Nat.ble 172 pc then
         bif Nat.beq pc 172 then some (.iload 7, 2, [], .inl 0, []) else none
        else
         bif Nat.beq pc 170 then some (.iload 4, 2, [], .inl 0, []) else none
       else
        bif Nat.beq pc 167 then some (.getfield 142, 3, [12, 823, 2], .inl 0, []) else none
    else
     bif Nat.ble 152 pc then
      bif Nat.ble 161 pc then
       bif Nat.ble 165 pc then
        bif Nat.ble 166 pc then
         bif Nat.beq pc 166 then some (.aload_n 0, 1, [], .inl 0, []) else none
        else
         bif Nat.beq pc 165 then some (.istore_n 3, 1, [], .inl 0, []) else none
       else
        bif Nat.ble 164 pc then
         bif Nat.beq pc 164 then some (.iconst 0, 1, [], .inl (0), []) else none
        else
         bif Nat.beq pc 161 then some (.goto 4, 3, [], .inl 0, []) else none
      else
       bif Nat.ble 156 pc then
        bif Nat.ble 159 pc then
         bif Nat.beq pc 159 then some (.iload 7, 2, [], .inl 0, []) else none
        else
         bif Nat.beq pc 156 then some (.ifCond .ge 8, 3, [], .inl 0, []) else none
       else
        bif Nat.ble 154 pc then
         bif Nat.beq pc 154 then some (.iload 7, 2, [], .inl 0, []) else none
        else
         bif Nat.beq pc 152 then some (.istore 7, 2, [], .inl 0, []) else none
     else
      bif Nat.ble 144 pc then
       bif Nat.ble 147 pc then
        bif Nat.ble 149 pc then
         bif Nat.beq pc 149 then some (.invokevirtual 322, 3, [199, 3, 1, 8, 12], .inl 0, []) else none
        else
         bif Nat.beq pc 147 then some (.iload 4, 2, [], .inl 0, []) else none
       else
        bif Nat.ble 145 pc then
         bif Nat.beq pc 145 then some (.iload 5, 2, [], .inl 0, []) else none
        else
         bif Nat.beq pc 144 then some (.aload_n 0, 1, [], .inl 0, []) else none
      else
       bif Nat.ble 138 pc then
        bif Nat.ble 141 pc then
         bif Nat.beq pc 141 then some (.goto (-36), 3, [], .inl 0, []) else none
        else
         bif Nat.beq pc 138 then some (.iinc 7 1, 3, [], .inl (1), []) else none
       else
        bif Nat.beq pc 137 then some (.lastore, 1, [], .inl 0, []) else none
   else
    bif Nat.ble 113 pc then
     bif Nat.ble 127 pc then
      bif Nat.ble 132 pc then
       bif Nat.ble 135 pc then
        bif Nat.ble 136 pc then
         bif Nat.beq pc 136 then some (.laload, 1, [], .inl 0, []) else none
        else
         bif Nat.beq pc 135 then some (.iadd, 1, [], .inl 0, []) else none
       else
        bif Nat.ble 133 pc then
         bif Nat.beq pc 133 then some (.iload 7, 2, [], .inl 0, []) else none
        else
         bif Nat.beq pc 132 then some (.imul, 1, [], .inl 0, []) else none
      else
       bif Nat.ble 130 pc then
        bif Nat.ble 131 pc then
         bif Nat.beq pc 131 then some (.isub, 1, [], .inl 0, []) else none
        else
         bif Nat.beq pc 130 then some (.iconst 1, 1, [], .inl (1), []) else none
       else
        bif Nat.ble 129 pc then
         bif Nat.beq pc 129 then some (.iload_n 2, 1, [], .inl 0, []) else none
        else
         bif Nat.beq pc 127 then some (.bipush 6, 2, [], .inl (6), []) else none
     else
      bif Nat.ble 118 pc then
       bif Nat.ble 123 pc then
        bif Nat.ble 124 pc then
         bif Nat.beq pc 124 then some (.getfield 157, 3, [12, 829, 2], .inl 0, []) else none
        else
         bif Nat.beq pc 123 then some (.aload_n 0, 1, [], .inl 0, []) else none
       else
        bif Nat.ble 121 pc then
         bif Nat.beq pc 121 then some (.iload 7, 2, [], .inl 0, []) else none
        else
         bif Nat.beq pc 118 then some (.getfield 96, 3, [12, 806, 2], .inl 0, []) else none
      else
       bif Nat.ble 114 pc then
        bif Nat.ble 117 pc then
         bif Nat.beq pc 117 then some (.aload_n 0, 1, [], .inl 0, []) else none
        else
         bif Nat.beq pc 114 then some (.if_icmp .ge 30, 3, [], .inl 0, []) else none
       else
        bif Nat.beq pc 113 then some (.iaload, 1, [], .inl 0, []) else none
    else
     bif Nat.ble 99 pc then
      bif Nat.ble 105 pc then
       bif Nat.ble 108 pc then
        bif Nat.ble 111 pc then
         bif Nat.beq pc 111 then some (.iload 5, 2, [], .inl 0, []) else none
        else
         bif Nat.beq pc 108 then some (.getfield 24, 3, [12, 774, 2], .inl 0, []) else none
       else
        bif Nat.ble 107 pc then
         bif Nat.beq pc 107 then some (.aload_n 0, 1, [], .inl 0, []) else none
        else
         bif Nat.beq pc 105 then some (.iload 7, 2, [], .inl 0, [3, 6, 8, 9]) else none
      else
       bif Nat.ble 102 pc then
        bif Nat.ble 103 pc then
         bif Nat.beq pc 103 then some (.istore 7, 2, [], .inl 0, []) else none
        else
         bif Nat.beq pc 102 then some (.iconst 0, 1, [], .inl (0), []) else none
       else
        bif Nat.beq pc 99 then some (.if_icmp .ne 91, 3, [], .inl 0, []) else none
     else
      bif Nat.ble 92 pc then
       bif Nat.ble 96 pc then
        bif Nat.ble 98 pc then
         bif Nat.beq pc 98 then some (.iaload, 1, [], .inl 0, []) else none
        else
         bif Nat.beq pc 96 then some (.iload 5, 2, [], .inl 0, []) else none
       else
        bif Nat.ble 93 pc then
         bif Nat.beq pc 93 then some (.getfield 24, 3, [12, 774, 2], .inl 0, []) else none
        else
         bif Nat.beq pc 92 then some (.aload_n 0, 1, [], .inl 0, []) else none
      else
       bif Nat.ble 88 pc then
        bif Nat.ble 90 pc then
         bif Nat.beq pc 90 then some (.iload 6, 2, [], .inl 0, []) else none
        else
         bif Nat.beq pc 88 then some (.istore 6, 2, [], .inl 0, []) else none
       else
        bif Nat.beq pc 87 then some (.iaload, 1, [], .inl 0, []) else none
  else
   bif Nat.ble 43 pc then
    bif Nat.ble 65 pc then
     bif Nat.ble 75 pc then
      bif Nat.ble 81 pc then
       bif Nat.ble 85 pc then
        bif Nat.ble 86 pc then
         bif Nat.beq pc 86 then some (.isub, 1, [], .inl 0, []) else none
        else
         bif Nat.beq pc 85 then some (.iconst 1, 1, [], .inl (1), []) else none
       else
        bif Nat.ble 84 pc then
         bif Nat.beq pc 84 then some (.iload_n 2, 1, [], .inl 0, []) else none
        else
         bif Nat.beq pc 81 then some (.getfield 151, 3, [12, 826, 2], .inl 0, []) else none
      else
       bif Nat.ble 78 pc then
        bif Nat.ble 80 pc then
         bif Nat.beq pc 80 then some (.aload_n 0, 1, [], .inl 0, []) else none
        else
         bif Nat.beq pc 78 then some (.istore 5, 2, [], .inl 0, []) else none
       else
        bif Nat.ble 77 pc then
         bif Nat.beq pc 77 then some (.iaload, 1, [], .inl 0, []) else none
        else
         bif Nat.beq pc 75 then some (.iload 4, 2, [], .inl 0, []) else none
     else
      bif Nat.ble 68 pc then
       bif Nat.ble 71 pc then
        bif Nat.ble 72 pc then
         bif Nat.beq pc 72 then some (.getfield 115, 3, [12, 814, 2], .inl 0, []) else none
        else
         bif Nat.beq pc 71 then some (.aload_n 0, 1, [], .inl 0, []) else none
       else
        bif Nat.ble 69 pc then
         bif Nat.beq pc 69 then some (.istore 4, 2, [], .inl 0, []) else none
        else
         bif Nat.beq pc 68 then some (.iaload, 1, [], .inl 0, []) else none
      else
       bif Nat.ble 66 pc then
        bif Nat.ble 67 pc then
         bif Nat.beq pc 67 then some (.isub, 1, [], .inl 0, []) else none
        else
         bif Nat.beq pc 66 then some (.iconst 1, 1, [], .inl (1), []) else none
       else
        bif Nat.beq pc 65 then some (.iload_n 2, 1, [], .inl 0, []) else none
    else
     bif Nat.ble 52 pc then
      bif Nat.ble 57 pc then
       bif Nat.ble 61 pc then
        bif Nat.ble 62 pc then
         bif Nat.beq pc 62 then some (.getfield 148, 3, [12, 825, 2], .inl 0, []) else none
        else
         bif Nat.beq pc 61 then some (.aload_n 0, 1, [], .inl 0, []) else none
       else
        bif Nat.ble 58 pc then
         bif Nat.beq pc 58 then some (.ifCond .ne 329, 3, [], .inl 0, []) else none
        else
         bif Nat.beq pc 57 then some (.iload_n 3, 1, [], .inl 0, []) else none
      else
       bif Nat.ble 53 pc then
        bif Nat.ble 54 pc then
         bif Nat.beq pc 54 then some (.ifCond .le 333, 3, [], .inl 0, []) else none
        else
         bif Nat.beq pc 53 then some (.iload_n 2, 1, [], .inl 0, [4, 5, 6, 7, 8, 9]) else none
       else
        bif Nat.beq pc 52 then some (.iastore, 1, [], .inl 0, []) else none
     else
      bif Nat.ble 46 pc then
       bif Nat.ble 50 pc then
        bif Nat.ble 51 pc then
         bif Nat.beq pc 51 then some (.iconst 0, 1, [], .inl (0), []) else none
        else
         bif Nat.beq pc 50 then some (.iconst 0, 1, [], .inl (0), []) else none
       else
        bif Nat.ble 47 pc then
         bif Nat.beq pc 47 then some (.getfield 151, 3, [12, 826, 2], .inl 0, []) else none
        else
         bif Nat.beq pc 46 then some (.aload_n 0, 1, [], .inl 0, []) else none
      else
       bif Nat.ble 44 pc then
        bif Nat.ble 45 pc then
         bif Nat.beq pc 45 then some (.iastore, 1, [], .inl 0, []) else none
        else
         bif Nat.beq pc 44 then some (.iload_n 1, 1, [], .inl 0, []) else none
       else
        bif Nat.beq pc 43 then some (.iconst 0, 1, [], .inl (0), []) else none
   else
    bif Nat.ble 22 pc then
     bif Nat.ble 33 pc then
      bif Nat.ble 37 pc then
       bif Nat.ble 39 pc then
        bif Nat.ble 40 pc then
         bif Nat.beq pc 40 then some (.getfield 148, 3, [12, 825, 2], .inl 0, []) else none
        else
         bif Nat.beq pc 39 then some (.aload_n 0, 1, [], .inl 0, []) else none
       else
        bif Nat.ble 38 pc then
         bif Nat.beq pc 38 then some (.istore_n 3, 1, [], .inl 0, []) else none
        else
         bif Nat.beq pc 37 then some (.iconst 0, 1, [], .inl (0), []) else none
      else
       bif Nat.ble 35 pc then
        bif Nat.ble 36 pc then
         bif Nat.beq pc 36 then some (.istore_n 2, 1, [], .inl 0, []) else none
        else
         bif Nat.beq pc 35 then some (.iconst 1, 1, [], .inl (1), []) else none
       else
        bif Nat.ble 34 pc then
         bif Nat.beq pc 34 then some (.ireturn, 1, [], .inl 0, []) else none
        else
         bif Nat.beq pc 33 then some (.iaload, 1, [], .inl 0, []) else none
     else
      bif Nat.ble 25 pc then
       bif Nat.ble 29 pc then
        bif Nat.ble 32 pc then
         bif Nat.beq pc 32 then some (.iload_n 1, 1, [], .inl 0, []) else none
        else
         bif Nat.beq pc 29 then some (.getfield 142, 3, [12, 823, 2], .inl 0, []) else none
       else
        bif Nat.ble 28 pc then
         bif Nat.beq pc 28 then some (.aload_n 0, 1, [], .inl 0, []) else none
        else
         bif Nat.beq pc 25 then some (.if_icmp .eq 10, 3, [], .inl 0, []) else none
      else
       bif Nat.ble 23 pc then
        bif Nat.ble 24 pc then
         bif Nat.beq pc 24 then some (.iconst (-1), 1, [], .inl (-1), []) else none
        else
         bif Nat.beq pc 23 then some (.iaload, 1, [], .inl 0, []) else none
       else
        bif Nat.beq pc 22 then some (.iload_n 1, 1, [], .inl 0, []) else none
    else
     bif Nat.ble 9 pc then
      bif Nat.ble 16 pc then
       bif Nat.ble 18 pc then
        bif Nat.ble 19 pc then
         bif Nat.beq pc 19 then some (.getfield 142, 3, [12, 823, 2], .inl 0, []) else none
        else
         bif Nat.beq pc 18 then some (.aload_n 0, 1, [], .inl 0, []) else none
       else
        bif Nat.ble 17 pc then
         bif Nat.beq pc 17 then some (.ireturn, 1, [], .inl 0, []) else none
        else
         bif Nat.beq pc 16 then some (.iconst (-1), 1, [], .inl (-1), []) else none
      else
       bif Nat.ble 10 pc then
        bif Nat.ble 13 pc then
         bif Nat.beq pc 13 then some (.ifCond .ne 5, 3, [], .inl 0, []) else none
        else
         bif Nat.beq pc 10 then some (.invokestatic 169, 3, [157, 3, 1, 6, 100], .inl 0, []) else none
       else
        bif Nat.beq pc 9 then some (.i2l, 1, [], .inl 0, []) else none
     else
      bif Nat.ble 3 pc then
       bif Nat.ble 7 pc then
        bif Nat.ble 8 pc then
         bif Nat.beq pc 8 then some (.isub, 1, [], .inl 0, []) else none
        else
         bif Nat.beq pc 7 then some (.iconst 1, 1, [], .inl (1), []) else none
       else
        bif Nat.ble 4 pc then
         bif Nat.beq pc 4 then some (.getfield 340, 3, [12, 813, 0], .inl 0, []) else none
        else
         bif Nat.beq pc 3 then some (.aload_n 0, 1, [], .inl 0, []) else none
      else
       bif Nat.ble 1 pc then
        bif Nat.ble 2 pc then
         bif Nat.beq pc 2 then some (.lconst 0, 1, [], .inr (.inl (0)), []) else none
        else
         bif Nat.beq pc 1 then some (.i2l, 1, [], .inl 0, []) else none
       else
        bif Nat.beq pc 0 then some (.iload_n 1, 1, [], .inl 0, []) else none
def kX12_comes (pc : Nat) : Option Ent := bif Nat.ble 114 pc then none else
 bif Nat.ble 53 pc then
  bif Nat.ble 84 pc then
   bif Nat.ble 96 pc then
    bif Nat.ble 104 pc then
     bif Nat.ble 109 pc then
      bif Nat.ble 112 pc then
       bif Nat.ble 113 pc then
        bif Nat.beq pc 113 then some (.ireturn, 1, [], .inl 0, []) else none
       else
        bif Nat.beq pc 112 then some (.iconst 0, 1, [], .inl (0), []) else none
      else
       bif Nat.beq pc 109 then some (.goto 4, 3, [], .inl 0, []) else none
     else
      bif Nat.ble 107 pc then
       bif Nat.beq pc 107 then some (.bipush 6, 2, [], .inl (6), []) else none
      else
       bif Nat.beq pc 104 then some (.ifCond .ne 8, 3, [], .inl 0, []) else none
    else
     bif Nat.ble 100 pc then
      bif Nat.ble 101 pc then
       bif Nat.beq pc 101 then some (.invokevirtual 284, 3, [174, 3, 1, 3, 12], .inl 0, []) else none
      else
       bif Nat.beq pc 100 then some (.iaload, 1, [], .inl 0, []) else none
     else
      bif Nat.ble 99 pc then
       bif Nat.beq pc 99 then some (.iload_n 1, 1, [], .inl 0, []) else none
      else
       bif Nat.beq pc 96 then some (.getfield 33, 3, [12, 777, 2], .inl 0, []) else none
   else
    bif Nat.ble 90 pc then
     bif Nat.ble 94 pc then
      bif Nat.ble 95 pc then
       bif Nat.beq pc 95 then some (.aload_n 0, 1, [], .inl 0, []) else none
      else
       bif Nat.beq pc 94 then some (.iaload, 1, [], .inl 0, []) else none
     else
      bif Nat.ble 93 pc then
       bif Nat.beq pc 93 then some (.l2i, 1, [], .inl 0, []) else none
      else
       bif Nat.beq pc 90 then some (.getfield 369, 3, [12, 830, 1], .inl 0, []) else none
    else
     bif Nat.ble 86 pc then
      bif Nat.ble 89 pc then
       bif Nat.beq pc 89 then some (.aload_n 0, 1, [], .inl 0, []) else none
      else
       bif Nat.beq pc 86 then some (.getfield 84, 3, [12, 802, 2], .inl 0, []) else none
     else
      bif Nat.ble 85 pc then
       bif Nat.beq pc 85 then some (.aload_n 0, 1, [], .inl 0, []) else none
      else
       bif Nat.beq pc 84 then some (.aload_n 0, 1, [], .inl 0, []) else none
  else
   bif Nat.ble 69 pc then
    bif Nat.ble 75 pc then
     bif Nat.ble 79 pc then
      bif Nat.ble 80 pc then
       bif Nat.ble 81 pc then
        bif Nat.beq pc 81 then some (.ifCond .lt 31, 3, [], .inl 0, []) else none
       else
        bif Nat.beq pc 80 then some (.lcmp, 1, [], .inl 0, []) else none
      else
       bif Nat.beq pc 79 then some (.lconst 0, 1, [], .inr (.inl (0)), []) else none
     else
      bif Nat.ble 76 pc then
       bif Nat.beq pc 76 then some (.getfield 369, 3, [12, 830, 1], .inl 0, []) else none
      else
       bif Nat.beq pc 75 then some (.aload_n 0, 1, [], .inl 0, []) else none
    else
     bif Nat.ble 71 pc then
      bif Nat.ble 72 pc then
       bif Nat.beq pc 72 then some (.putfield 369, 3, [12, 830, 1], .inl 0, []) else none
      else
       bif Nat.beq pc 71 then some (.i2l, 1, [], .inl 0, []) else none
     else
      bif Nat.ble 70 pc then
       bif Nat.beq pc 70 then some (.iaload, 1, [], .inl 0, []) else none
      else
       bif Nat.beq pc 69 then some (.l2i, 1, [], .inl 0, []) else none
   else
    bif Nat.ble 63 pc then
     bif Nat.ble 67 pc then
      bif Nat.ble 68 pc then
       bif Nat.beq pc 68 then some (.laload, 1, [], .inl 0, []) else none
      else
       bif Nat.beq pc 67 then some (.iload_n 2, 1, [], .inl 0, []) else none
     else
      bif Nat.ble 64 pc then
       bif Nat.beq pc 64 then some (.getfield 133, 3, [12, 820, 2], .inl 0, []) else none
      else
       bif Nat.beq pc 63 then some (.aload_n 0, 1, [], .inl 0, []) else none
    else
     bif Nat.ble 59 pc then
      bif Nat.ble 60 pc then
       bif Nat.beq pc 60 then some (.getfield 142, 3, [12, 823, 2], .inl 0, []) else none
      else
       bif Nat.beq pc 59 then some (.aload_n 0, 1, [], .inl 0, []) else none
     else
      bif Nat.ble 56 pc then
       bif Nat.beq pc 56 then some (.goto 16, 3, [], .inl 0, []) else none
      else
       bif Nat.beq pc 53 then some (.ldc2_w 246, 3, [], .inr (.inl (-1)), []) else none
 else
  bif Nat.ble 25 pc then
   bif Nat.ble 40 pc then
    bif Nat.ble 46 pc then
     bif Nat.ble 48 pc then
      bif Nat.ble 49 pc then
       bif Nat.ble 50 pc then
        bif Nat.beq pc 50 then some (.ifCond .ge 9, 3, [], .inl 0, []) else none
       else
        bif Nat.beq pc 49 then some (.lcmp, 1, [], .inl 0, []) else none
      else
       bif Nat.beq pc 48 then some (.lconst 0, 1, [], .inr (.inl (0)), []) else none
     else
      bif Nat.ble 47 pc then
       bif Nat.beq pc 47 then some (.laload, 1, [], .inl 0, []) else none
      else
       bif Nat.beq pc 46 then some (.iload_n 2, 1, [], .inl 0, []) else none
    else
     bif Nat.ble 42 pc then
      bif Nat.ble 43 pc then
       bif Nat.beq pc 43 then some (.getfield 133, 3, [12, 820, 2], .inl 0, []) else none
      else
       bif Nat.beq pc 42 then some (.aload_n 0, 1, [], .inl 0, []) else none
     else
      bif Nat.ble 41 pc then
       bif Nat.beq pc 41 then some (.aload_n 0, 1, [], .inl 0, []) else none
      else
       bif Nat.beq pc 40 then some (.ireturn, 1, [], .inl 0, []) else none
   else
    bif Nat.ble 33 pc then
     bif Nat.ble 36 pc then
      bif Nat.ble 39 pc then
       bif Nat.beq pc 39 then some (.iload_n 3, 1, [], .inl 0, []) else none
      else
       bif Nat.beq pc 36 then some (.if_icmp .eq 5, 3, [], .inl 0, []) else none
     else
      bif Nat.ble 34 pc then
       bif Nat.beq pc 34 then some (.bipush 11, 2, [], .inl (11), []) else none
      else
       bif Nat.beq pc 33 then some (.iaload, 1, [], .inl 0, []) else none
    else
     bif Nat.ble 29 pc then
      bif Nat.ble 32 pc then
       bif Nat.beq pc 32 then some (.iload_n 1, 1, [], .inl 0, []) else none
      else
       bif Nat.beq pc 29 then some (.getfield 30, 3, [12, 776, 2], .inl 0, []) else none
     else
      bif Nat.ble 28 pc then
       bif Nat.beq pc 28 then some (.aload_n 0, 1, [], .inl 0, []) else none
      else
       bif Nat.beq pc 25 then some (.ifCond .ne 14, 3, [], .inl 0, []) else none
  else
   bif Nat.ble 12 pc then
    bif Nat.ble 18 pc then
     bif Nat.ble 20 pc then
      bif Nat.ble 23 pc then
       bif Nat.ble 24 pc then
        bif Nat.beq pc 24 then some (.iload_n 3, 1, [], .inl 0, []) else none
       else
        bif Nat.beq pc 23 then some (.istore_n 3, 1, [], .inl 0, []) else none
      else
       bif Nat.beq pc 20 then some (.invokevirtual 389, 3, [219, 3, 1, 10, 12], .inl 0, []) else none
     else
      bif Nat.ble 19 pc then
       bif Nat.beq pc 19 then some (.iload_n 2, 1, [], .inl 0, []) else none
      else
       bif Nat.beq pc 18 then some (.iload_n 1, 1, [], .inl 0, []) else none
    else
     bif Nat.ble 16 pc then
      bif Nat.ble 17 pc then
       bif Nat.beq pc 17 then some (.aload_n 0, 1, [], .inl 0, []) else none
      else
       bif Nat.beq pc 16 then some (.ireturn, 1, [], .inl 0, []) else none
     else
      bif Nat.ble 15 pc then
       bif Nat.beq pc 15 then some (.iconst 0, 1, [], .inl (0), []) else none
      else
       bif Nat.beq pc 12 then some (.if_icmp .ne 5, 3, [], .inl 0, []) else none
   else
    bif Nat.ble 6 pc then
     bif Nat.ble 10 pc then
      bif Nat.ble 11 pc then
       bif Nat.beq pc 11 then some (.iconst (-1), 1, [], .inl (-1), []) else none
      else
       bif Nat.beq pc 10 then some (.iload_n 2, 1, [], .inl 0, []) else none
     else
      bif Nat.ble 7 pc then
       bif Nat.beq pc 7 then some (.putfield 369, 3, [12, 830, 1], .inl 0, []) else none
      else
       bif Nat.beq pc 6 then some (.laload, 1, [], .inl 0, []) else none
    else
     bif Nat.ble 2 pc then
      bif Nat.ble 5 pc then
       bif Nat.beq pc 5 then some (.iload_n 1, 1, [], .inl 0, []) else none
      else
       bif Nat.beq pc 2 then some (.getfield 36, 3, [12, 778, 2], .inl 0, []) else none
     else
      bif Nat.ble 1 pc then
       bif Nat.beq pc 1 then some (.aload_n 0, 1, [], .inl 0, []) else none
      else
       bif Nat.beq pc 0 then some (.aload_n 0, 1, [], .inl 0, []) else none
def kX12_line (pc : Nat) : Option Ent := bif Nat.ble 78 pc then none else
 bif Nat.ble 54 pc then
  bif Nat.ble 67 pc then
   bif Nat.ble 73 pc then
    bif Nat.ble 75 pc then
     bif Nat.ble 76 pc then
      bif Nat.ble 77 pc then
       bif Nat.beq pc 77 then some (.ireturn, 1, [], .inl 0, []) else none
      else
       bif Nat.beq pc 76 then some (.iconst (-1), 1, [], .inl (-1), []) else none
     else
      bif Nat.beq pc 75 then some (.ireturn, 1, [], .inl 0, []) else none
    else
     bif Nat.ble 74 pc then
      bif Nat.beq pc 74 then some (.iaload, 1, [], .inl 0, []) else none
     else
      bif Nat.beq pc 73 then some (.iload_n 1, 1, [], .inl 0, []) else none
   else
    bif Nat.ble 69 pc then
     bif Nat.ble 70 pc then
      bif Nat.beq pc 70 then some (.getfield 142, 3, [12, 823, 2], .inl 0, []) else none
     else
      bif Nat.beq pc 69 then some (.aload_n 0, 1, [], .inl 0, []) else none
    else
     bif Nat.ble 68 pc then
      bif Nat.beq pc 68 then some (.ireturn, 1, [], .inl 0, []) else none
     else
      bif Nat.beq pc 67 then some (.iaload, 1, [], .inl 0, []) else none
  else
   bif Nat.ble 60 pc then
    bif Nat.ble 62 pc then
     bif Nat.ble 63 pc then
      bif Nat.ble 66 pc then
       bif Nat.beq pc 66 then some (.iload_n 1, 1, [], .inl 0, []) else none
      else
       bif Nat.beq pc 63 then some (.getfield 121, 3, [12, 816, 2], .inl 0, []) else none
     else
      bif Nat.beq pc 62 then some (.aload_n 0, 1, [], .inl 0, []) else none
    else
     bif Nat.ble 61 pc then
      bif Nat.beq pc 61 then some (.ireturn, 1, [], .inl 0, []) else none
     else
      bif Nat.beq pc 60 then some (.iaload, 1, [], .inl 0, []) else none
   else
    bif Nat.ble 56 pc then
     bif Nat.ble 59 pc then
      bif Nat.beq pc 59 then some (.iload_n 1, 1, [], .inl 0, []) else none
     else
      bif Nat.beq pc 56 then some (.getfield 118, 3, [12, 815, 2], .inl 0, []) else none
    else
     bif Nat.ble 55 pc then
      bif Nat.beq pc 55 then some (.aload_n 0, 1, [], .inl 0, []) else none
     else
      bif Nat.beq pc 54 then some (.ireturn, 1, [], .inl 0, []) else none
 else
  bif Nat.ble 13 pc then
   bif Nat.ble 19 pc then
    bif Nat.ble 49 pc then
     bif Nat.ble 52 pc then
      bif Nat.ble 53 pc then
       bif Nat.beq pc 53 then some (.iaload, 1, [], .inl 0, []) else none
      else
       bif Nat.beq pc 52 then some (.iload_n 1, 1, [], .inl 0, []) else none
     else
      bif Nat.beq pc 49 then some (.getfield 115, 3, [12, 814, 2], .inl 0, []) else none
    else
     bif Nat.ble 48 pc then
      bif Nat.beq pc 48 then some (.aload_n 0, 1, [], .inl 0, []) else none
     else
      bif Nat.beq pc 19 then some (.tableswitch 57 0 3 #[29, 36, 43, 50], 29, [], .inl 0, []) else none
   else
    bif Nat.ble 17 pc then
     bif Nat.ble 18 pc then
      bif Nat.beq pc 18 then some (.iload_n 2, 1, [], .inl 0, []) else none
     else
      bif Nat.beq pc 17 then some (.ireturn, 1, [], .inl 0, []) else none
    else
     bif Nat.ble 16 pc then
      bif Nat.beq pc 16 then some (.iconst (-1), 1, [], .inl (-1), []) else none
     else
      bif Nat.beq pc 13 then some (.ifCond .ne 5, 3, [], .inl 0, []) else none
  else
   bif Nat.ble 4 pc then
    bif Nat.ble 8 pc then
     bif Nat.ble 9 pc then
      bif Nat.ble 10 pc then
       bif Nat.beq pc 10 then some (.invokestatic 169, 3, [157, 3, 1, 6, 100], .inl 0, []) else none
      else
       bif Nat.beq pc 9 then some (.i2l, 1, [], .inl 0, []) else none
     else
      bif Nat.beq pc 8 then some (.isub, 1, [], .inl 0, []) else none
    else
     bif Nat.ble 7 pc then
      bif Nat.beq pc 7 then some (.iconst 1, 1, [], .inl (1), []) else none
     else
      bif Nat.beq pc 4 then some (.getfield 340, 3, [12, 813, 0], .inl 0, []) else none
   else
    bif Nat.ble 2 pc then
     bif Nat.ble 3 pc then
      bif Nat.beq pc 3 then some (.aload_n 0, 1, [], .inl 0, []) else none
     else
      bif Nat.beq pc 2 then some (.lconst 0, 1, [], .inr (.inl (0)), []) else none
    else
     bif Nat.ble 1 pc then
      bif Nat.beq pc 1 then some (.i2l, 1, [], .inl 0, []) else none
     else
      bif Nat.beq pc 0 then some (.iload_n 1, 1, [], .inl 0, []) else none
def kX12_has (pc : Nat) : Option Ent := bif Nat.ble 162 pc then none else
 bif Nat.ble 77 pc then
  bif Nat.ble 118 pc then
   bif Nat.ble 139 pc then
    bif Nat.ble 150 pc then
     bif Nat.ble 156 pc then
      bif Nat.ble 159 pc then
       bif Nat.ble 161 pc then
        bif Nat.beq pc 161 then some (.ireturn, 1, [1], .inl 0, []) else none
       else
        bif Nat.beq pc 159 then some (.iload 10, 2, [], .inl 0, []) else none
      else
       bif Nat.beq pc 156 then some (.goto (-92), 3, [], .inl 0, []) else none
     else
      bif Nat.ble 151 pc then
       bif Nat.ble 153 pc then
        bif Nat.beq pc 153 then some (.iinc 11 1, 3, [], .inl (1), []) else none
       else
        bif Nat.beq pc 151 then some (.istore 10, 2, [], .inl 0, []) else none
      else
       bif Nat.beq pc 150 then some (.iconst 0, 1, [], .inl (0), []) else none
    else
     bif Nat.ble 143 pc then
      bif Nat.ble 146 pc then
       bif Nat.ble 147 pc then
        bif Nat.beq pc 147 then some (.goto 4, 3, [], .inl 0, []) else none
       else
        bif Nat.beq pc 146 then some (.iconst 1, 1, [], .inl (1), []) else none
      else
       bif Nat.beq pc 143 then some (.ifCond .eq 7, 3, [], .inl 0, []) else none
     else
      bif Nat.ble 140 pc then
       bif Nat.beq pc 140 then some (.invokestatic 169, 3, [157, 3, 1, 6, 100], .inl 0, []) else none
      else
       bif Nat.beq pc 139 then some (.i2l, 1, [], .inl 0, []) else none
   else
    bif Nat.ble 128 pc then
     bif Nat.ble 134 pc then
      bif Nat.ble 136 pc then
       bif Nat.ble 137 pc then
        bif Nat.beq pc 137 then some (.iload 8, 2, [], .inl 0, []) else none
       else
        bif Nat.beq pc 136 then some (.i2l, 1, [], .inl 0, []) else none
      else
       bif Nat.beq pc 134 then some (.iload 7, 2, [], .inl 0, []) else none
     else
      bif Nat.ble 130 pc then
       bif Nat.ble 133 pc then
        bif Nat.beq pc 133 then some (.i2l, 1, [], .inl 0, []) else none
       else
        bif Nat.beq pc 130 then some (.invokevirtual 196, 3, [165, 3, 1, 5, 12], .inl 0, []) else none
      else
       bif Nat.beq pc 128 then some (.lload 12, 2, [], .inl 0, []) else none
    else
     bif Nat.ble 122 pc then
      bif Nat.ble 125 pc then
       bif Nat.ble 126 pc then
        bif Nat.beq pc 126 then some (.iload 6, 2, [], .inl 0, []) else none
       else
        bif Nat.beq pc 125 then some (.aload_n 0, 1, [], .inl 0, []) else none
      else
       bif Nat.beq pc 122 then some (.if_icmp .eq 28, 3, [], .inl 0, []) else none
     else
      bif Nat.ble 121 pc then
       bif Nat.beq pc 121 then some (.iconst (-1), 1, [], .inl (-1), []) else none
      else
       bif Nat.beq pc 118 then some (.invokevirtual 196, 3, [165, 3, 1, 5, 12], .inl 0, []) else none
  else
   bif Nat.ble 96 pc then
    bif Nat.ble 106 pc then
     bif Nat.ble 113 pc then
      bif Nat.ble 114 pc then
       bif Nat.ble 116 pc then
        bif Nat.beq pc 116 then some (.lload 12, 2, [], .inl 0, []) else none
       else
        bif Nat.beq pc 114 then some (.iload 6, 2, [], .inl 0, []) else none
      else
       bif Nat.beq pc 113 then some (.aload_n 0, 1, [], .inl 0, []) else none
     else
      bif Nat.ble 107 pc then
       bif Nat.ble 110 pc then
        bif Nat.beq pc 110 then some (.goto 36, 3, [], .inl 0, []) else none
       else
        bif Nat.beq pc 107 then some (.ifCond .ne 43, 3, [], .inl 0, []) else none
      else
       bif Nat.beq pc 106 then some (.lcmp, 1, [], .inl 0, []) else none
    else
     bif Nat.ble 99 pc then
      bif Nat.ble 102 pc then
       bif Nat.ble 104 pc then
        bif Nat.beq pc 104 then some (.lload 4, 2, [], .inl 0, []) else none
       else
        bif Nat.beq pc 102 then some (.lload 12, 2, [], .inl 0, []) else none
      else
       bif Nat.beq pc 99 then some (.if_icmp .ne 14, 3, [], .inl 0, []) else none
     else
      bif Nat.ble 98 pc then
       bif Nat.beq pc 98 then some (.iconst (-1), 1, [], .inl (-1), []) else none
      else
       bif Nat.beq pc 96 then some (.iload 6, 2, [], .inl 0, []) else none
   else
    bif Nat.ble 87 pc then
     bif Nat.ble 89 pc then
      bif Nat.ble 91 pc then
       bif Nat.ble 93 pc then
        bif Nat.beq pc 93 then some (.ifCond .ne 53, 3, [], .inl 0, []) else none
       else
        bif Nat.beq pc 91 then some (.iload 10, 2, [], .inl 0, []) else none
      else
       bif Nat.beq pc 89 then some (.lstore 12, 2, [], .inl 0, []) else none
     else
      bif Nat.ble 88 pc then
       bif Nat.beq pc 88 then some (.laload, 1, [], .inl 0, []) else none
      else
       bif Nat.beq pc 87 then some (.iadd, 1, [], .inl 0, []) else none
    else
     bif Nat.ble 82 pc then
      bif Nat.ble 84 pc then
       bif Nat.ble 85 pc then
        bif Nat.beq pc 85 then some (.iload 11, 2, [], .inl 0, []) else none
       else
        bif Nat.beq pc 84 then some (.imul, 1, [], .inl 0, []) else none
      else
       bif Nat.beq pc 82 then some (.iload 9, 2, [], .inl 0, []) else none
     else
      bif Nat.ble 80 pc then
       bif Nat.beq pc 80 then some (.bipush 16, 2, [], .inl (16), []) else none
      else
       bif Nat.beq pc 77 then some (.getfield 136, 3, [12, 821, 2], .inl 0, []) else none
 else
  bif Nat.ble 40 pc then
   bif Nat.ble 58 pc then
    bif Nat.ble 66 pc then
     bif Nat.ble 72 pc then
      bif Nat.ble 73 pc then
       bif Nat.ble 76 pc then
        bif Nat.beq pc 76 then some (.aload_n 0, 1, [], .inl 0, []) else none
       else
        bif Nat.beq pc 73 then some (.if_icmp .ge 86, 3, [], .inl 0, []) else none
      else
       bif Nat.beq pc 72 then some (.iaload, 1, [], .inl 0, []) else none
     else
      bif Nat.ble 67 pc then
       bif Nat.ble 70 pc then
        bif Nat.beq pc 70 then some (.iload 9, 2, [], .inl 0, []) else none
       else
        bif Nat.beq pc 67 then some (.getfield 139, 3, [12, 822, 2], .inl 0, []) else none
      else
       bif Nat.beq pc 66 then some (.aload_n 0, 1, [], .inl 0, []) else none
    else
     bif Nat.ble 61 pc then
      bif Nat.ble 62 pc then
       bif Nat.ble 64 pc then
        bif Nat.beq pc 64 then some (.iload 11, 2, [], .inl 0, [1, 2, 3, 5, 12, 13]) else none
       else
        bif Nat.beq pc 62 then some (.istore 11, 2, [], .inl 0, []) else none
      else
       bif Nat.beq pc 61 then some (.iconst 0, 1, [], .inl (0), []) else none
     else
      bif Nat.ble 59 pc then
       bif Nat.beq pc 59 then some (.istore 10, 2, [], .inl 0, []) else none
      else
       bif Nat.beq pc 58 then some (.iconst 0, 1, [], .inl (0), []) else none
   else
    bif Nat.ble 50 pc then
     bif Nat.ble 53 pc then
      bif Nat.ble 56 pc then
       bif Nat.ble 57 pc then
        bif Nat.beq pc 57 then some (.ireturn, 1, [1], .inl 0, []) else none
       else
        bif Nat.beq pc 56 then some (.iconst 0, 1, [], .inl (0), []) else none
      else
       bif Nat.beq pc 53 then some (.if_icmp .eq 5, 3, [], .inl 0, []) else none
     else
      bif Nat.ble 51 pc then
       bif Nat.beq pc 51 then some (.iload 6, 2, [], .inl 0, []) else none
      else
       bif Nat.beq pc 50 then some (.iaload, 1, [], .inl 0, []) else none
    else
     bif Nat.ble 44 pc then
      bif Nat.ble 45 pc then
       bif Nat.ble 48 pc then
        bif Nat.beq pc 48 then some (.iload 9, 2, [], .inl 0, []) else none
       else
        bif Nat.beq pc 45 then some (.getfield 130, 3, [12, 819, 2], .inl 0, []) else none
      else
       bif Nat.beq pc 44 then some (.aload_n 0, 1, [], .inl 0, []) else none
     else
      bif Nat.ble 41 pc then
       bif Nat.beq pc 41 then some (.if_icmp .eq 17, 3, [], .inl 0, []) else none
      else
       bif Nat.beq pc 40 then some (.iconst (-1), 1, [], .inl (-1), []) else none
  else
   bif Nat.ble 18 pc then
    bif Nat.ble 27 pc then
     bif Nat.ble 33 pc then
      bif Nat.ble 35 pc then
       bif Nat.ble 38 pc then
        bif Nat.beq pc 38 then some (.iload 6, 2, [], .inl 0, []) else none
       else
        bif Nat.beq pc 35 then some (.if_icmp .ne 21, 3, [], .inl 0, []) else none
      else
       bif Nat.beq pc 33 then some (.bipush 9, 2, [], .inl (9), []) else none
     else
      bif Nat.ble 30 pc then
       bif Nat.ble 32 pc then
        bif Nat.beq pc 32 then some (.iaload, 1, [], .inl 0, []) else none
       else
        bif Nat.beq pc 30 then some (.iload 9, 2, [], .inl 0, []) else none
      else
       bif Nat.beq pc 27 then some (.getfield 127, 3, [12, 818, 2], .inl 0, []) else none
    else
     bif Nat.ble 21 pc then
      bif Nat.ble 23 pc then
       bif Nat.ble 26 pc then
        bif Nat.beq pc 26 then some (.aload_n 0, 1, [], .inl 0, []) else none
       else
        bif Nat.beq pc 23 then some (.if_icmp .eq 15, 3, [], .inl 0, []) else none
      else
       bif Nat.beq pc 21 then some (.bipush 8, 2, [], .inl (8), []) else none
     else
      bif Nat.ble 20 pc then
       bif Nat.beq pc 20 then some (.iaload, 1, [], .inl 0, []) else none
      else
       bif Nat.beq pc 18 then some (.iload 9, 2, [], .inl 0, []) else none
   else
    bif Nat.ble 8 pc then
     bif Nat.ble 11 pc then
      bif Nat.ble 14 pc then
       bif Nat.ble 15 pc then
        bif Nat.beq pc 15 then some (.getfield 127, 3, [12, 818, 2], .inl 0, []) else none
       else
        bif Nat.beq pc 14 then some (.aload_n 0, 1, [], .inl 0, []) else none
      else
       bif Nat.beq pc 11 then some (.if_icmp .eq 45, 3, [], .inl 0, []) else none
     else
      bif Nat.ble 10 pc then
       bif Nat.beq pc 10 then some (.iconst (-1), 1, [], .inl (-1), []) else none
      else
       bif Nat.beq pc 8 then some (.iload 9, 2, [], .inl 0, []) else none
    else
     bif Nat.ble 2 pc then
      bif Nat.ble 3 pc then
       bif Nat.ble 6 pc then
        bif Nat.beq pc 6 then some (.istore 9, 2, [], .inl 0, []) else none
       else
        bif Nat.beq pc 3 then some (.invokevirtual 383, 3, [218, 3, 1, 5, 12], .inl 0, []) else none
      else
       bif Nat.beq pc 2 then some (.lload_n 2, 1, [], .inl 0, []) else none
     else
      bif Nat.ble 1 pc then
       bif Nat.beq pc 1 then some (.iload_n 1, 1, [], .inl 0, []) else none
      else
       bif Nat.beq pc 0 then some (.aload_n 0, 1, [], .inl 0, []) else none
def kX12_found (pc : Nat) : Option Ent := bif Nat.ble 64 pc then none else
 bif Nat.ble 29 pc then
  bif Nat.ble 48 pc then
   bif Nat.ble 57 pc then
    bif Nat.ble 62 pc then
     bif Nat.ble 63 pc then
      bif Nat.beq pc 63 then some (.ireturn, 1, [], .inl 0, []) else none
     else
      bif Nat.beq pc 62 then some (.iconst (-1), 1, [], .inl (-1), []) else none
    else
     bif Nat.ble 59 pc then
      bif Nat.beq pc 59 then some (.goto 4, 3, [], .inl 0, []) else none
     else
      bif Nat.beq pc 57 then some (.iload 9, 2, [], .inl 0, []) else none
   else
    bif Nat.ble 53 pc then
     bif Nat.ble 54 pc then
      bif Nat.beq pc 54 then some (.if_icmp .ne 8, 3, [], .inl 0, []) else none
     else
      bif Nat.beq pc 53 then some (.iconst (-1), 1, [], .inl (-1), []) else none
    else
     bif Nat.ble 51 pc then
      bif Nat.beq pc 51 then some (.iload 8, 2, [], .inl 0, []) else none
     else
      bif Nat.beq pc 48 then some (.goto (-42), 3, [], .inl 0, []) else none
  else
   bif Nat.ble 39 pc then
    bif Nat.ble 42 pc then
     bif Nat.ble 45 pc then
      bif Nat.beq pc 45 then some (.iinc 10 1, 3, [], .inl (1), []) else none
     else
      bif Nat.beq pc 42 then some (.iinc 9 1, 3, [], .inl (1), []) else none
    else
     bif Nat.ble 41 pc then
      bif Nat.beq pc 41 then some (.ireturn, 1, [], .inl 0, []) else none
     else
      bif Nat.beq pc 39 then some (.iload 10, 2, [], .inl 0, []) else none
   else
    bif Nat.ble 34 pc then
     bif Nat.ble 36 pc then
      bif Nat.beq pc 36 then some (.if_icmp .ne 6, 3, [], .inl 0, []) else none
     else
      bif Nat.beq pc 34 then some (.iload 8, 2, [], .inl 0, []) else none
    else
     bif Nat.ble 32 pc then
      bif Nat.beq pc 32 then some (.iload 9, 2, [], .inl 0, []) else none
     else
      bif Nat.beq pc 29 then some (.ifCond .eq 16, 3, [], .inl 0, []) else none
 else
  bif Nat.ble 15 pc then
   bif Nat.ble 20 pc then
    bif Nat.ble 24 pc then
     bif Nat.ble 26 pc then
      bif Nat.beq pc 26 then some (.invokevirtual 392, 3, [225, 7, 1, 14, 12], .inl 0, []) else none
     else
      bif Nat.beq pc 24 then some (.iload 7, 2, [], .inl 0, []) else none
    else
     bif Nat.ble 22 pc then
      bif Nat.beq pc 22 then some (.iload 6, 2, [], .inl 0, []) else none
     else
      bif Nat.beq pc 20 then some (.iload 5, 2, [], .inl 0, []) else none
   else
    bif Nat.ble 18 pc then
     bif Nat.ble 19 pc then
      bif Nat.beq pc 19 then some (.lload_n 3, 1, [], .inl 0, []) else none
     else
      bif Nat.beq pc 18 then some (.lload_n 1, 1, [], .inl 0, []) else none
    else
     bif Nat.ble 16 pc then
      bif Nat.beq pc 16 then some (.iload 10, 2, [], .inl 0, []) else none
     else
      bif Nat.beq pc 15 then some (.aload_n 0, 1, [], .inl 0, []) else none
  else
   bif Nat.ble 6 pc then
    bif Nat.ble 9 pc then
     bif Nat.ble 12 pc then
      bif Nat.beq pc 12 then some (.if_icmp .ge 39, 3, [], .inl 0, []) else none
     else
      bif Nat.beq pc 9 then some (.getfield 340, 3, [12, 813, 0], .inl 0, []) else none
    else
     bif Nat.ble 8 pc then
      bif Nat.beq pc 8 then some (.aload_n 0, 1, [], .inl 0, []) else none
     else
      bif Nat.beq pc 6 then some (.iload 10, 2, [], .inl 0, [2, 4]) else none
   else
    bif Nat.ble 3 pc then
     bif Nat.ble 4 pc then
      bif Nat.beq pc 4 then some (.istore 10, 2, [], .inl 0, []) else none
     else
      bif Nat.beq pc 3 then some (.iconst 0, 1, [], .inl (0), []) else none
    else
     bif Nat.ble 1 pc then
      bif Nat.beq pc 1 then some (.istore 9, 2, [], .inl 0, []) else none
     else
      bif Nat.beq pc 0 then some (.iconst 0, 1, [], .inl (0), []) else none
def kX12_word (pc : Nat) : Option Ent := bif Nat.ble 12 pc then none else
 bif Nat.ble 4 pc then
  bif Nat.ble 6 pc then
   bif Nat.ble 8 pc then
    bif Nat.ble 11 pc then
     bif Nat.beq pc 11 then some (.ireturn, 1, [], .inl 0, []) else none
    else
     bif Nat.beq pc 8 then some (.invokevirtual 396, 3, [226, 7, 1, 11, 12], .inl 0, []) else none
   else
    bif Nat.beq pc 6 then some (.iload 5, 2, [], .inl 0, []) else none
  else
   bif Nat.ble 5 pc then
    bif Nat.beq pc 5 then some (.iconst 0, 1, [], .inl (0), []) else none
   else
    bif Nat.beq pc 4 then some (.iconst 0, 1, [], .inl (0), []) else none
 else
  bif Nat.ble 2 pc then
   bif Nat.ble 3 pc then
    bif Nat.beq pc 3 then some (.iconst (-1), 1, [], .inl (-1), []) else none
   else
    bif Nat.beq pc 2 then some (.lload_n 3, 1, [], .inl 0, []) else none
  else
   bif Nat.ble 1 pc then
    bif Nat.beq pc 1 then some (.lload_n 1, 1, [], .inl 0, []) else none
   else
    bif Nat.beq pc 0 then some (.aload_n 0, 1, [], .inl 0, []) else none
def kX12_range (pc : Nat) : Option Ent := bif Nat.ble 26 pc then none else
 bif Nat.ble 11 pc then
  bif Nat.ble 18 pc then
   bif Nat.ble 24 pc then
    bif Nat.ble 25 pc then
     bif Nat.beq pc 25 then some (.ireturn, 1, [], .inl 0, []) else none
    else
     bif Nat.beq pc 24 then some (.iconst (-1), 1, [], .inl (-1), []) else none
   else
    bif Nat.ble 21 pc then
     bif Nat.beq pc 21 then some (.goto 4, 3, [], .inl 0, []) else none
    else
     bif Nat.beq pc 18 then some (.invokevirtual 396, 3, [226, 7, 1, 11, 12], .inl 0, []) else none
  else
   bif Nat.ble 14 pc then
    bif Nat.ble 16 pc then
     bif Nat.beq pc 16 then some (.iload 6, 2, [], .inl 0, []) else none
    else
     bif Nat.beq pc 14 then some (.iload 5, 2, [], .inl 0, []) else none
   else
    bif Nat.ble 12 pc then
     bif Nat.beq pc 12 then some (.iload 4, 2, [], .inl 0, []) else none
    else
     bif Nat.beq pc 11 then some (.iload_n 3, 1, [], .inl 0, []) else none
 else
  bif Nat.ble 5 pc then
   bif Nat.ble 9 pc then
    bif Nat.ble 10 pc then
     bif Nat.beq pc 10 then some (.lconst 0, 1, [], .inr (.inl (0)), []) else none
    else
     bif Nat.beq pc 9 then some (.lload_n 1, 1, [], .inl 0, []) else none
   else
    bif Nat.ble 8 pc then
     bif Nat.beq pc 8 then some (.aload_n 0, 1, [], .inl 0, []) else none
    else
     bif Nat.beq pc 5 then some (.ifCond .eq 19, 3, [], .inl 0, []) else none
  else
   bif Nat.ble 1 pc then
    bif Nat.ble 2 pc then
     bif Nat.beq pc 2 then some (.invokevirtual 176, 3, [159, 2, 1, 2, 12], .inl 0, []) else none
    else
     bif Nat.beq pc 1 then some (.iload_n 3, 1, [], .inl 0, []) else none
   else
    bif Nat.beq pc 0 then some (.aload_n 0, 1, [], .inl 0, []) else none
def kX12_count (pc : Nat) : Option Ent := bif Nat.ble 90 pc then none else
 bif Nat.ble 68 pc then
  bif Nat.ble 79 pc then
   bif Nat.ble 84 pc then
    bif Nat.ble 88 pc then
     bif Nat.ble 89 pc then
      bif Nat.beq pc 89 then some (.ireturn, 1, [], .inl 0, []) else none
     else
      bif Nat.beq pc 88 then some (.iconst (-1), 1, [], .inl (-1), []) else none
    else
     bif Nat.ble 87 pc then
      bif Nat.beq pc 87 then some (.ireturn, 1, [], .inl 0, []) else none
     else
      bif Nat.beq pc 84 then some (.getfield 373, 3, [12, 828, 0], .inl 0, []) else none
   else
    bif Nat.ble 82 pc then
     bif Nat.ble 83 pc then
      bif Nat.beq pc 83 then some (.aload_n 0, 1, [], .inl 0, []) else none
     else
      bif Nat.beq pc 82 then some (.ireturn, 1, [], .inl 0, []) else none
    else
     bif Nat.beq pc 79 then some (.getfield 160, 3, [12, 790, 0], .inl 0, []) else none
  else
   bif Nat.ble 73 pc then
    bif Nat.ble 77 pc then
     bif Nat.ble 78 pc then
      bif Nat.beq pc 78 then some (.aload_n 0, 1, [], .inl 0, []) else none
     else
      bif Nat.beq pc 77 then some (.ireturn, 1, [], .inl 0, []) else none
    else
     bif Nat.ble 74 pc then
      bif Nat.beq pc 74 then some (.getfield 340, 3, [12, 813, 0], .inl 0, []) else none
     else
      bif Nat.beq pc 73 then some (.aload_n 0, 1, [], .inl 0, []) else none
   else
    bif Nat.ble 69 pc then
     bif Nat.ble 72 pc then
      bif Nat.beq pc 72 then some (.ireturn, 1, [], .inl 0, []) else none
     else
      bif Nat.beq pc 69 then some (.getfield 189, 3, [12, 791, 0], .inl 0, []) else none
    else
     bif Nat.beq pc 68 then some (.aload_n 0, 1, [], .inl 0, []) else none
 else
  bif Nat.ble 57 pc then
   bif Nat.ble 62 pc then
    bif Nat.ble 64 pc then
     bif Nat.ble 67 pc then
      bif Nat.beq pc 67 then some (.ireturn, 1, [], .inl 0, []) else none
     else
      bif Nat.beq pc 64 then some (.getfield 265, 3, [12, 793, 0], .inl 0, []) else none
    else
     bif Nat.ble 63 pc then
      bif Nat.beq pc 63 then some (.aload_n 0, 1, [], .inl 0, []) else none
     else
      bif Nat.beq pc 62 then some (.ireturn, 1, [], .inl 0, []) else none
   else
    bif Nat.ble 58 pc then
     bif Nat.ble 59 pc then
      bif Nat.beq pc 59 then some (.getfield 186, 3, [12, 784, 0], .inl 0, []) else none
     else
      bif Nat.beq pc 58 then some (.aload_n 0, 1, [], .inl 0, []) else none
    else
     bif Nat.beq pc 57 then some (.ireturn, 1, [], .inl 0, []) else none
  else
   bif Nat.ble 49 pc then
    bif Nat.ble 53 pc then
     bif Nat.ble 54 pc then
      bif Nat.beq pc 54 then some (.getfield 180, 3, [12, 773, 0], .inl 0, []) else none
     else
      bif Nat.beq pc 53 then some (.aload_n 0, 1, [], .inl 0, []) else none
    else
     bif Nat.ble 52 pc then
      bif Nat.beq pc 52 then some (.ireturn, 1, [], .inl 0, []) else none
     else
      bif Nat.beq pc 49 then some (.getfield 173, 3, [12, 768, 0], .inl 0, []) else none
   else
    bif Nat.ble 1 pc then
     bif Nat.ble 48 pc then
      bif Nat.beq pc 48 then some (.aload_n 0, 1, [], .inl 0, []) else none
     else
      bif Nat.beq pc 1 then some (.tableswitch 87 0 7 #[47, 52, 57, 62, 67, 72, 77, 82], 47, [], .inl 0, []) else none
    else
     bif Nat.beq pc 0 then some (.iload_n 1, 1, [], .inl 0, []) else none
def kX12_about (pc : Nat) : Option Ent := bif Nat.ble 134 pc then none else
 bif Nat.ble 86 pc then
  bif Nat.ble 111 pc then
   bif Nat.ble 122 pc then
    bif Nat.ble 128 pc then
     bif Nat.ble 132 pc then
      bif Nat.ble 133 pc then
       bif Nat.beq pc 133 then some (.ireturn, 1, [], .inl 0, []) else none
      else
       bif Nat.beq pc 132 then some (.iconst (-1), 1, [], .inl (-1), []) else none
     else
      bif Nat.ble 131 pc then
       bif Nat.beq pc 131 then some (.ireturn, 1, [], .inl 0, []) else none
      else
       bif Nat.beq pc 128 then some (.getfield 207, 3, [12, 788, 0], .inl 0, []) else none
    else
     bif Nat.ble 124 pc then
      bif Nat.ble 127 pc then
       bif Nat.beq pc 127 then some (.aload_n 0, 1, [], .inl 0, []) else none
      else
       bif Nat.beq pc 124 then some (.invokevirtual 214, 3, [172, 2, 0, 5, 12], .inl 0, []) else none
     else
      bif Nat.ble 123 pc then
       bif Nat.beq pc 123 then some (.iload_n 1, 1, [], .inl 0, []) else none
      else
       bif Nat.beq pc 122 then some (.aload_n 0, 1, [], .inl 0, []) else none
   else
    bif Nat.ble 114 pc then
     bif Nat.ble 120 pc then
      bif Nat.ble 121 pc then
       bif Nat.beq pc 121 then some (.ireturn, 1, [], .inl 0, []) else none
      else
       bif Nat.beq pc 120 then some (.iconst (-1), 1, [], .inl (-1), []) else none
     else
      bif Nat.ble 117 pc then
       bif Nat.beq pc 117 then some (.ifCond .ne 5, 3, [], .inl 0, []) else none
      else
       bif Nat.beq pc 114 then some (.invokevirtual 204, 3, [163, 2, 1, 2, 12], .inl 0, []) else none
    else
     bif Nat.ble 112 pc then
      bif Nat.ble 113 pc then
       bif Nat.beq pc 113 then some (.iload_n 1, 1, [], .inl 0, []) else none
      else
       bif Nat.beq pc 112 then some (.aload_n 0, 1, [], .inl 0, []) else none
     else
      bif Nat.beq pc 111 then some (.ireturn, 1, [], .inl 0, []) else none
  else
   bif Nat.ble 95 pc then
    bif Nat.ble 105 pc then
     bif Nat.ble 107 pc then
      bif Nat.ble 110 pc then
       bif Nat.beq pc 110 then some (.iconst (-1), 1, [], .inl (-1), []) else none
      else
       bif Nat.beq pc 107 then some (.goto 4, 3, [], .inl 0, []) else none
     else
      bif Nat.ble 106 pc then
       bif Nat.beq pc 106 then some (.iaload, 1, [], .inl 0, []) else none
      else
       bif Nat.beq pc 105 then some (.iload_n 1, 1, [], .inl 0, []) else none
    else
     bif Nat.ble 101 pc then
      bif Nat.ble 102 pc then
       bif Nat.beq pc 102 then some (.getfield 54, 3, [12, 785, 2], .inl 0, []) else none
      else
       bif Nat.beq pc 101 then some (.aload_n 0, 1, [], .inl 0, []) else none
     else
      bif Nat.ble 98 pc then
       bif Nat.beq pc 98 then some (.ifCond .eq 12, 3, [], .inl 0, []) else none
      else
       bif Nat.beq pc 95 then some (.invokevirtual 204, 3, [163, 2, 1, 2, 12], .inl 0, []) else none
   else
    bif Nat.ble 91 pc then
     bif Nat.ble 93 pc then
      bif Nat.ble 94 pc then
       bif Nat.beq pc 94 then some (.iload_n 1, 1, [], .inl 0, []) else none
      else
       bif Nat.beq pc 93 then some (.aload_n 0, 1, [], .inl 0, []) else none
     else
      bif Nat.ble 92 pc then
       bif Nat.beq pc 92 then some (.ireturn, 1, [], .inl 0, []) else none
      else
       bif Nat.beq pc 91 then some (.iconst (-1), 1, [], .inl (-1), []) else none
    else
     bif Nat.ble 87 pc then
      bif Nat.ble 88 pc then
       bif Nat.beq pc 88 then some (.goto 4, 3, [], .inl 0, []) else none
      else
       bif Nat.beq pc 87 then some (.iaload, 1, [], .inl 0, []) else none
     else
      bif Nat.beq pc 86 then some (.iload_n 1, 1, [], .inl 0, []) else none
 else
  bif Nat.ble 57 pc then
   bif Nat.ble 72 pc then
    bif Nat.ble 76 pc then
     bif Nat.ble 82 pc then
      bif Nat.ble 83 pc then
       bif Nat.beq pc 83 then some (.getfield 39, 3, [12, 779, 2], .inl 0, []) else none
      else
       bif Nat.beq pc 82 then some (.aload_n 0, 1, [], .inl 0, []) else none
     else
      bif Nat.ble 79 pc then
       bif Nat.beq pc 79 then some (.ifCond .eq 12, 3, [], .inl 0, []) else none
      else
       bif Nat.beq pc 76 then some (.invokevirtual 183, 3, [161, 2, 1, 2, 12], .inl 0, []) else none
    else
     bif Nat.ble 74 pc then
      bif Nat.ble 75 pc then
       bif Nat.beq pc 75 then some (.iload_n 1, 1, [], .inl 0, []) else none
      else
       bif Nat.beq pc 74 then some (.aload_n 0, 1, [], .inl 0, []) else none
     else
      bif Nat.ble 73 pc then
       bif Nat.beq pc 73 then some (.ireturn, 1, [], .inl 0, []) else none
      else
       bif Nat.beq pc 72 then some (.iconst (-1), 1, [], .inl (-1), []) else none
   else
    bif Nat.ble 64 pc then
     bif Nat.ble 68 pc then
      bif Nat.ble 69 pc then
       bif Nat.beq pc 69 then some (.goto 4, 3, [], .inl 0, []) else none
      else
       bif Nat.beq pc 68 then some (.iaload, 1, [], .inl 0, []) else none
     else
      bif Nat.ble 67 pc then
       bif Nat.beq pc 67 then some (.iload_n 1, 1, [], .inl 0, []) else none
      else
       bif Nat.beq pc 64 then some (.getfield 24, 3, [12, 774, 2], .inl 0, []) else none
    else
     bif Nat.ble 60 pc then
      bif Nat.ble 63 pc then
       bif Nat.beq pc 63 then some (.aload_n 0, 1, [], .inl 0, []) else none
      else
       bif Nat.beq pc 60 then some (.ifCond .eq 12, 3, [], .inl 0, []) else none
     else
      bif Nat.beq pc 57 then some (.invokevirtual 183, 3, [161, 2, 1, 2, 12], .inl 0, []) else none
  else
   bif Nat.ble 45 pc then
    bif Nat.ble 53 pc then
     bif Nat.ble 55 pc then
      bif Nat.ble 56 pc then
       bif Nat.beq pc 56 then some (.iload_n 1, 1, [], .inl 0, []) else none
      else
       bif Nat.beq pc 55 then some (.aload_n 0, 1, [], .inl 0, []) else none
     else
      bif Nat.ble 54 pc then
       bif Nat.beq pc 54 then some (.ireturn, 1, [], .inl 0, []) else none
      else
       bif Nat.beq pc 53 then some (.iconst (-1), 1, [], .inl (-1), []) else none
    else
     bif Nat.ble 49 pc then
      bif Nat.ble 50 pc then
       bif Nat.beq pc 50 then some (.goto 4, 3, [], .inl 0, []) else none
      else
       bif Nat.beq pc 49 then some (.iaload, 1, [], .inl 0, []) else none
     else
      bif Nat.ble 48 pc then
       bif Nat.beq pc 48 then some (.iload_n 1, 1, [], .inl 0, []) else none
      else
       bif Nat.beq pc 45 then some (.getfield 7, 3, [12, 769, 2], .inl 0, []) else none
   else
    bif Nat.ble 37 pc then
     bif Nat.ble 41 pc then
      bif Nat.ble 44 pc then
       bif Nat.beq pc 44 then some (.aload_n 0, 1, [], .inl 0, []) else none
      else
       bif Nat.beq pc 41 then some (.ifCond .eq 12, 3, [], .inl 0, []) else none
     else
      bif Nat.ble 38 pc then
       bif Nat.beq pc 38 then some (.invokevirtual 176, 3, [159, 2, 1, 2, 12], .inl 0, []) else none
      else
       bif Nat.beq pc 37 then some (.iload_n 1, 1, [], .inl 0, []) else none
    else
     bif Nat.ble 1 pc then
      bif Nat.ble 36 pc then
       bif Nat.beq pc 36 then some (.aload_n 0, 1, [], .inl 0, []) else none
      else
       bif Nat.beq pc 1 then some (.tableswitch 131 0 4 #[35, 54, 73, 92, 111], 35, [], .inl 0, []) else none
     else
      bif Nat.beq pc 0 then some (.iload_n 2, 1, [], .inl 0, []) else none
def kL_law (pc : Nat) : Option Ent := bif Nat.ble 1725 pc then none else
 bif Nat.ble 941 pc then
  bif Nat.ble 1335 pc then
   bif Nat.ble 1531 pc then
    bif Nat.ble 1623 pc then
     bif Nat.ble 1671 pc then
      bif Nat.ble 1695 pc then
       bif Nat.ble 1707 pc then
        bif Nat.ble 1716 pc then
         bif Nat.ble 1720 pc then
          bif Nat.ble 1723 pc then
           bif Nat.ble 1724 pc then
            bif Nat.beq pc 1724 then some (.ireturn, 1, [1], .inl 0, []) else none
           else
            bif Nat.beq pc 1723 then some (.iconst 1, 1, [], .inl (1), []) else none
          else
           bif Nat.beq pc 1720 then some (.goto (-1702), 3, [], .inl 0, []) else none
         else
          bif Nat.ble 1717 pc then
           bif Nat.beq pc 1717 then some (.iinc 3 8, 3, [], .inl (8), []) else none
          else
           bif Nat.beq pc 1716 then some (.ireturn, 1, [1], .inl 0, []) else none
        else
         bif Nat.ble 1709 pc then
          bif Nat.ble 1712 pc then
           bif Nat.ble 1715 pc then
            bif Nat.beq pc 1715 then some (.iconst 0, 1, [], .inl (0), []) else none
           else
            bif Nat.beq pc 1712 then some (.if_icmp .eq 5, 3, [], .inl 0, []) else none
          else
           bif Nat.beq pc 1709 then some (.invokevirtual 166, 3, [230, 3, 1, 3, 12], .inl 0, []) else none
         else
          bif Nat.ble 1708 pc then
           bif Nat.beq pc 1708 then some (.iaload, 1, [], .inl 0, []) else none
          else
           bif Nat.beq pc 1707 then some (.iadd, 1, [], .inl 0, []) else none
       else
        bif Nat.ble 1702 pc then
         bif Nat.ble 1704 pc then
          bif Nat.ble 1705 pc then
           bif Nat.ble 1706 pc then
            bif Nat.beq pc 1706 then some (.iconst 2, 1, [], .inl (2), []) else none
           else
            bif Nat.beq pc 1705 then some (.iload_n 3, 1, [], .inl 0, []) else none
          else
           bif Nat.beq pc 1704 then some (.aload_n 0, 1, [], .inl 0, []) else none
         else
          bif Nat.ble 1703 pc then
           bif Nat.beq pc 1703 then some (.iaload, 1, [], .inl 0, []) else none
          else
           bif Nat.beq pc 1702 then some (.iadd, 1, [], .inl 0, []) else none
        else
         bif Nat.ble 1699 pc then
          bif Nat.ble 1700 pc then
           bif Nat.ble 1701 pc then
            bif Nat.beq pc 1701 then some (.iconst 1, 1, [], .inl (1), []) else none
           else
            bif Nat.beq pc 1700 then some (.iload_n 3, 1, [], .inl 0, []) else none
          else
           bif Nat.beq pc 1699 then some (.aload_n 0, 1, [], .inl 0, []) else none
         else
          bif Nat.ble 1698 pc then
           bif Nat.beq pc 1698 then some (.aload_n 2, 1, [], .inl 0, []) else none
          else
           bif Nat.beq pc 1695 then some (.invokevirtual 163, 3, [106, 3, 1, 4, 11], .inl 0, []) else none
      else
       bif Nat.ble 1685 pc then
        bif Nat.ble 1690 pc then
         bif Nat.ble 1692 pc then
          bif Nat.ble 1693 pc then
           bif Nat.ble 1694 pc then
            bif Nat.beq pc 1694 then some (.iaload, 1, [], .inl 0, []) else none
           else
            bif Nat.beq pc 1693 then some (.iadd, 1, [], .inl 0, []) else none
          else
           bif Nat.beq pc 1692 then some (.iconst 2, 1, [], .inl (2), []) else none
         else
          bif Nat.ble 1691 pc then
           bif Nat.beq pc 1691 then some (.iload_n 3, 1, [], .inl 0, []) else none
          else
           bif Nat.beq pc 1690 then some (.aload_n 0, 1, [], .inl 0, []) else none
        else
         bif Nat.ble 1687 pc then
          bif Nat.ble 1688 pc then
           bif Nat.ble 1689 pc then
            bif Nat.beq pc 1689 then some (.iaload, 1, [], .inl 0, []) else none
           else
            bif Nat.beq pc 1688 then some (.iadd, 1, [], .inl 0, []) else none
          else
           bif Nat.beq pc 1687 then some (.iconst 1, 1, [], .inl (1), []) else none
         else
          bif Nat.ble 1686 pc then
           bif Nat.beq pc 1686 then some (.iload_n 3, 1, [], .inl 0, []) else none
          else
           bif Nat.beq pc 1685 then some (.aload_n 0, 1, [], .inl 0, []) else none
       else
        bif Nat.ble 1676 pc then
         bif Nat.ble 1682 pc then
          bif Nat.ble 1683 pc then
           bif Nat.ble 1684 pc then
            bif Nat.beq pc 1684 then some (.aload_n 1, 1, [], .inl 0, []) else none
           else
            bif Nat.beq pc 1683 then some (.ireturn, 1, [1], .inl 0, []) else none
          else
           bif Nat.beq pc 1682 then some (.iconst 0, 1, [], .inl (0), []) else none
         else
          bif Nat.ble 1679 pc then
           bif Nat.beq pc 1679 then some (.if_icmp .eq 38, 3, [], .inl 0, []) else none
          else
           bif Nat.beq pc 1676 then some (.invokevirtual 162, 3, [229, 2, 1, 2, 12], .inl 0, []) else none
        else
         bif Nat.ble 1673 pc then
          bif Nat.ble 1674 pc then
           bif Nat.ble 1675 pc then
            bif Nat.beq pc 1675 then some (.iaload, 1, [], .inl 0, []) else none
           else
            bif Nat.beq pc 1674 then some (.iadd, 1, [], .inl 0, []) else none
          else
           bif Nat.beq pc 1673 then some (.iconst 1, 1, [], .inl (1), []) else none
         else
          bif Nat.ble 1672 pc then
           bif Nat.beq pc 1672 then some (.iload_n 3, 1, [], .inl 0, []) else none
          else
           bif Nat.beq pc 1671 then some (.aload_n 0, 1, [], .inl 0, []) else none
     else
      bif Nat.ble 1644 pc then
       bif Nat.ble 1659 pc then
        bif Nat.ble 1664 pc then
         bif Nat.ble 1666 pc then
          bif Nat.ble 1667 pc then
           bif Nat.ble 1670 pc then
            bif Nat.beq pc 1670 then some (.aload_n 2, 1, [], .inl 0, []) else none
           else
            bif Nat.beq pc 1667 then some (.invokevirtual 159, 3, [105, 2, 1, 2, 11], .inl 0, []) else none
          else
           bif Nat.beq pc 1666 then some (.iaload, 1, [], .inl 0, []) else none
         else
          bif Nat.ble 1665 pc then
           bif Nat.beq pc 1665 then some (.iadd, 1, [], .inl 0, []) else none
          else
           bif Nat.beq pc 1664 then some (.iconst 1, 1, [], .inl (1), []) else none
        else
         bif Nat.ble 1661 pc then
          bif Nat.ble 1662 pc then
           bif Nat.ble 1663 pc then
            bif Nat.beq pc 1663 then some (.iload_n 3, 1, [], .inl 0, []) else none
           else
            bif Nat.beq pc 1662 then some (.aload_n 0, 1, [], .inl 0, []) else none
          else
           bif Nat.beq pc 1661 then some (.aload_n 1, 1, [], .inl 0, []) else none
         else
          bif Nat.ble 1660 pc then
           bif Nat.beq pc 1660 then some (.ireturn, 1, [1], .inl 0, []) else none
          else
           bif Nat.beq pc 1659 then some (.iconst 0, 1, [], .inl (0), []) else none
       else
        bif Nat.ble 1649 pc then
         bif Nat.ble 1652 pc then
          bif Nat.ble 1653 pc then
           bif Nat.ble 1656 pc then
            bif Nat.beq pc 1656 then some (.if_icmp .eq 61, 3, [], .inl 0, []) else none
           else
            bif Nat.beq pc 1653 then some (.invokevirtual 158, 3, [228, 6, 1, 7, 12], .inl 0, []) else none
          else
           bif Nat.beq pc 1652 then some (.iaload, 1, [], .inl 0, []) else none
         else
          bif Nat.ble 1651 pc then
           bif Nat.beq pc 1651 then some (.iadd, 1, [], .inl 0, []) else none
          else
           bif Nat.beq pc 1649 then some (.bipush 6, 2, [], .inl (6), []) else none
        else
         bif Nat.ble 1646 pc then
          bif Nat.ble 1647 pc then
           bif Nat.ble 1648 pc then
            bif Nat.beq pc 1648 then some (.iload_n 3, 1, [], .inl 0, []) else none
           else
            bif Nat.beq pc 1647 then some (.aload_n 0, 1, [], .inl 0, []) else none
          else
           bif Nat.beq pc 1646 then some (.iaload, 1, [], .inl 0, []) else none
         else
          bif Nat.ble 1645 pc then
           bif Nat.beq pc 1645 then some (.iadd, 1, [], .inl 0, []) else none
          else
           bif Nat.beq pc 1644 then some (.iconst 5, 1, [], .inl (5), []) else none
      else
       bif Nat.ble 1634 pc then
        bif Nat.ble 1639 pc then
         bif Nat.ble 1641 pc then
          bif Nat.ble 1642 pc then
           bif Nat.ble 1643 pc then
            bif Nat.beq pc 1643 then some (.iload_n 3, 1, [], .inl 0, []) else none
           else
            bif Nat.beq pc 1642 then some (.aload_n 0, 1, [], .inl 0, []) else none
          else
           bif Nat.beq pc 1641 then some (.iaload, 1, [], .inl 0, []) else none
         else
          bif Nat.ble 1640 pc then
           bif Nat.beq pc 1640 then some (.iadd, 1, [], .inl 0, []) else none
          else
           bif Nat.beq pc 1639 then some (.iconst 4, 1, [], .inl (4), []) else none
        else
         bif Nat.ble 1636 pc then
          bif Nat.ble 1637 pc then
           bif Nat.ble 1638 pc then
            bif Nat.beq pc 1638 then some (.iload_n 3, 1, [], .inl 0, []) else none
           else
            bif Nat.beq pc 1637 then some (.aload_n 0, 1, [], .inl 0, []) else none
          else
           bif Nat.beq pc 1636 then some (.iaload, 1, [], .inl 0, []) else none
         else
          bif Nat.ble 1635 pc then
           bif Nat.beq pc 1635 then some (.iadd, 1, [], .inl 0, []) else none
          else
           bif Nat.beq pc 1634 then some (.iconst 3, 1, [], .inl (3), []) else none
       else
        bif Nat.ble 1627 pc then
         bif Nat.ble 1631 pc then
          bif Nat.ble 1632 pc then
           bif Nat.ble 1633 pc then
            bif Nat.beq pc 1633 then some (.iload_n 3, 1, [], .inl 0, []) else none
           else
            bif Nat.beq pc 1632 then some (.aload_n 0, 1, [], .inl 0, []) else none
          else
           bif Nat.beq pc 1631 then some (.lor, 1, [], .inl 0, []) else none
         else
          bif Nat.ble 1630 pc then
           bif Nat.beq pc 1630 then some (.land, 1, [], .inl 0, []) else none
          else
           bif Nat.beq pc 1627 then some (.ldc2_w 18, 3, [], .inr (.inl (4294967295)), []) else none
        else
         bif Nat.ble 1625 pc then
          bif Nat.ble 1626 pc then
           bif Nat.beq pc 1626 then some (.i2l, 1, [], .inl 0, []) else none
          else
           bif Nat.beq pc 1625 then some (.iaload, 1, [], .inl 0, []) else none
         else
          bif Nat.ble 1624 pc then
           bif Nat.beq pc 1624 then some (.iadd, 1, [], .inl 0, []) else none
          else
           bif Nat.beq pc 1623 then some (.iconst 2, 1, [], .inl (2), []) else none
    else
     bif Nat.ble 1578 pc then
      bif Nat.ble 1599 pc then
       bif Nat.ble 1612 pc then
        bif Nat.ble 1617 pc then
         bif Nat.ble 1620 pc then
          bif Nat.ble 1621 pc then
           bif Nat.ble 1622 pc then
            bif Nat.beq pc 1622 then some (.iload_n 3, 1, [], .inl 0, []) else none
           else
            bif Nat.beq pc 1621 then some (.aload_n 0, 1, [], .inl 0, []) else none
          else
           bif Nat.beq pc 1620 then some (.lshl, 1, [], .inl 0, []) else none
         else
          bif Nat.ble 1618 pc then
           bif Nat.beq pc 1618 then some (.bipush 32, 2, [], .inl (32), []) else none
          else
           bif Nat.beq pc 1617 then some (.i2l, 1, [], .inl 0, []) else none
        else
         bif Nat.ble 1614 pc then
          bif Nat.ble 1615 pc then
           bif Nat.ble 1616 pc then
            bif Nat.beq pc 1616 then some (.iaload, 1, [], .inl 0, []) else none
           else
            bif Nat.beq pc 1615 then some (.iadd, 1, [], .inl 0, []) else none
          else
           bif Nat.beq pc 1614 then some (.iconst 1, 1, [], .inl (1), []) else none
         else
          bif Nat.ble 1613 pc then
           bif Nat.beq pc 1613 then some (.iload_n 3, 1, [], .inl 0, []) else none
          else
           bif Nat.beq pc 1612 then some (.aload_n 0, 1, [], .inl 0, []) else none
       else
        bif Nat.ble 1604 pc then
         bif Nat.ble 1607 pc then
          bif Nat.ble 1608 pc then
           bif Nat.ble 1611 pc then
            bif Nat.beq pc 1611 then some (.aload_n 2, 1, [], .inl 0, []) else none
           else
            bif Nat.beq pc 1608 then some (.invokevirtual 154, 3, [104, 6, 1, 10, 11], .inl 0, []) else none
          else
           bif Nat.beq pc 1607 then some (.iaload, 1, [], .inl 0, []) else none
         else
          bif Nat.ble 1606 pc then
           bif Nat.beq pc 1606 then some (.iadd, 1, [], .inl 0, []) else none
          else
           bif Nat.beq pc 1604 then some (.bipush 6, 2, [], .inl (6), []) else none
        else
         bif Nat.ble 1601 pc then
          bif Nat.ble 1602 pc then
           bif Nat.ble 1603 pc then
            bif Nat.beq pc 1603 then some (.iload_n 3, 1, [], .inl 0, []) else none
           else
            bif Nat.beq pc 1602 then some (.aload_n 0, 1, [], .inl 0, []) else none
          else
           bif Nat.beq pc 1601 then some (.iaload, 1, [], .inl 0, []) else none
         else
          bif Nat.ble 1600 pc then
           bif Nat.beq pc 1600 then some (.iadd, 1, [], .inl 0, []) else none
          else
           bif Nat.beq pc 1599 then some (.iconst 5, 1, [], .inl (5), []) else none
      else
       bif Nat.ble 1589 pc then
        bif Nat.ble 1594 pc then
         bif Nat.ble 1596 pc then
          bif Nat.ble 1597 pc then
           bif Nat.ble 1598 pc then
            bif Nat.beq pc 1598 then some (.iload_n 3, 1, [], .inl 0, []) else none
           else
            bif Nat.beq pc 1597 then some (.aload_n 0, 1, [], .inl 0, []) else none
          else
           bif Nat.beq pc 1596 then some (.iaload, 1, [], .inl 0, []) else none
         else
          bif Nat.ble 1595 pc then
           bif Nat.beq pc 1595 then some (.iadd, 1, [], .inl 0, []) else none
          else
           bif Nat.beq pc 1594 then some (.iconst 4, 1, [], .inl (4), []) else none
        else
         bif Nat.ble 1591 pc then
          bif Nat.ble 1592 pc then
           bif Nat.ble 1593 pc then
            bif Nat.beq pc 1593 then some (.iload_n 3, 1, [], .inl 0, []) else none
           else
            bif Nat.beq pc 1592 then some (.aload_n 0, 1, [], .inl 0, []) else none
          else
           bif Nat.beq pc 1591 then some (.iaload, 1, [], .inl 0, []) else none
         else
          bif Nat.ble 1590 pc then
           bif Nat.beq pc 1590 then some (.iadd, 1, [], .inl 0, []) else none
          else
           bif Nat.beq pc 1589 then some (.iconst 3, 1, [], .inl (3), []) else none
       else
        bif Nat.ble 1582 pc then
         bif Nat.ble 1586 pc then
          bif Nat.ble 1587 pc then
           bif Nat.ble 1588 pc then
            bif Nat.beq pc 1588 then some (.iload_n 3, 1, [], .inl 0, []) else none
           else
            bif Nat.beq pc 1587 then some (.aload_n 0, 1, [], .inl 0, []) else none
          else
           bif Nat.beq pc 1586 then some (.lor, 1, [], .inl 0, []) else none
         else
          bif Nat.ble 1585 pc then
           bif Nat.beq pc 1585 then some (.land, 1, [], .inl 0, []) else none
          else
           bif Nat.beq pc 1582 then some (.ldc2_w 18, 3, [], .inr (.inl (4294967295)), []) else none
        else
         bif Nat.ble 1580 pc then
          bif Nat.ble 1581 pc then
           bif Nat.beq pc 1581 then some (.i2l, 1, [], .inl 0, []) else none
          else
           bif Nat.beq pc 1580 then some (.iaload, 1, [], .inl 0, []) else none
         else
          bif Nat.ble 1579 pc then
           bif Nat.beq pc 1579 then some (.iadd, 1, [], .inl 0, []) else none
          else
           bif Nat.beq pc 1578 then some (.iconst 2, 1, [], .inl (2), []) else none
     else
      bif Nat.ble 1553 pc then
       bif Nat.ble 1567 pc then
        bif Nat.ble 1572 pc then
         bif Nat.ble 1575 pc then
          bif Nat.ble 1576 pc then
           bif Nat.ble 1577 pc then
            bif Nat.beq pc 1577 then some (.iload_n 3, 1, [], .inl 0, []) else none
           else
            bif Nat.beq pc 1576 then some (.aload_n 0, 1, [], .inl 0, []) else none
          else
           bif Nat.beq pc 1575 then some (.lshl, 1, [], .inl 0, []) else none
         else
          bif Nat.ble 1573 pc then
           bif Nat.beq pc 1573 then some (.bipush 32, 2, [], .inl (32), []) else none
          else
           bif Nat.beq pc 1572 then some (.i2l, 1, [], .inl 0, []) else none
        else
         bif Nat.ble 1569 pc then
          bif Nat.ble 1570 pc then
           bif Nat.ble 1571 pc then
            bif Nat.beq pc 1571 then some (.iaload, 1, [], .inl 0, []) else none
           else
            bif Nat.beq pc 1570 then some (.iadd, 1, [], .inl 0, []) else none
          else
           bif Nat.beq pc 1569 then some (.iconst 1, 1, [], .inl (1), []) else none
         else
          bif Nat.ble 1568 pc then
           bif Nat.beq pc 1568 then some (.iload_n 3, 1, [], .inl 0, []) else none
          else
           bif Nat.beq pc 1567 then some (.aload_n 0, 1, [], .inl 0, []) else none
       else
        bif Nat.ble 1558 pc then
         bif Nat.ble 1564 pc then
          bif Nat.ble 1565 pc then
           bif Nat.ble 1566 pc then
            bif Nat.beq pc 1566 then some (.aload_n 1, 1, [], .inl 0, []) else none
           else
            bif Nat.beq pc 1565 then some (.ireturn, 1, [1], .inl 0, []) else none
          else
           bif Nat.beq pc 1564 then some (.iconst 0, 1, [], .inl (0), []) else none
         else
          bif Nat.ble 1561 pc then
           bif Nat.beq pc 1561 then some (.if_icmp .eq 156, 3, [], .inl 0, []) else none
          else
           bif Nat.beq pc 1558 then some (.invokevirtual 153, 3, [227, 4, 1, 6, 12], .inl 0, []) else none
        else
         bif Nat.ble 1555 pc then
          bif Nat.ble 1556 pc then
           bif Nat.ble 1557 pc then
            bif Nat.beq pc 1557 then some (.iaload, 1, [], .inl 0, []) else none
           else
            bif Nat.beq pc 1556 then some (.iadd, 1, [], .inl 0, []) else none
          else
           bif Nat.beq pc 1555 then some (.iconst 5, 1, [], .inl (5), []) else none
         else
          bif Nat.ble 1554 pc then
           bif Nat.beq pc 1554 then some (.iload_n 3, 1, [], .inl 0, []) else none
          else
           bif Nat.beq pc 1553 then some (.aload_n 0, 1, [], .inl 0, []) else none
      else
       bif Nat.ble 1541 pc then
        bif Nat.ble 1546 pc then
         bif Nat.ble 1548 pc then
          bif Nat.ble 1551 pc then
           bif Nat.ble 1552 pc then
            bif Nat.beq pc 1552 then some (.lor, 1, [], .inl 0, []) else none
           else
            bif Nat.beq pc 1551 then some (.land, 1, [], .inl 0, []) else none
          else
           bif Nat.beq pc 1548 then some (.ldc2_w 18, 3, [], .inr (.inl (4294967295)), []) else none
         else
          bif Nat.ble 1547 pc then
           bif Nat.beq pc 1547 then some (.i2l, 1, [], .inl 0, []) else none
          else
           bif Nat.beq pc 1546 then some (.iaload, 1, [], .inl 0, []) else none
        else
         bif Nat.ble 1543 pc then
          bif Nat.ble 1544 pc then
           bif Nat.ble 1545 pc then
            bif Nat.beq pc 1545 then some (.iadd, 1, [], .inl 0, []) else none
           else
            bif Nat.beq pc 1544 then some (.iconst 4, 1, [], .inl (4), []) else none
          else
           bif Nat.beq pc 1543 then some (.iload_n 3, 1, [], .inl 0, []) else none
         else
          bif Nat.ble 1542 pc then
           bif Nat.beq pc 1542 then some (.aload_n 0, 1, [], .inl 0, []) else none
          else
           bif Nat.beq pc 1541 then some (.lshl, 1, [], .inl 0, []) else none
       else
        bif Nat.ble 1535 pc then
         bif Nat.ble 1537 pc then
          bif Nat.ble 1538 pc then
           bif Nat.ble 1539 pc then
            bif Nat.beq pc 1539 then some (.bipush 32, 2, [], .inl (32), []) else none
           else
            bif Nat.beq pc 1538 then some (.i2l, 1, [], .inl 0, []) else none
          else
           bif Nat.beq pc 1537 then some (.iaload, 1, [], .inl 0, []) else none
         else
          bif Nat.ble 1536 pc then
           bif Nat.beq pc 1536 then some (.iadd, 1, [], .inl 0, []) else none
          else
           bif Nat.beq pc 1535 then some (.iconst 3, 1, [], .inl (3), []) else none
        else
         bif Nat.ble 1533 pc then
          bif Nat.ble 1534 pc then
           bif Nat.beq pc 1534 then some (.iload_n 3, 1, [], .inl 0, []) else none
          else
           bif Nat.beq pc 1533 then some (.aload_n 0, 1, [], .inl 0, []) else none
         else
          bif Nat.ble 1532 pc then
           bif Nat.beq pc 1532 then some (.lor, 1, [], .inl 0, []) else none
          else
           bif Nat.beq pc 1531 then some (.land, 1, [], .inl 0, []) else none
   else
    bif Nat.ble 1435 pc then
     bif Nat.ble 1483 pc then
      bif Nat.ble 1506 pc then
       bif Nat.ble 1518 pc then
        bif Nat.ble 1524 pc then
         bif Nat.ble 1526 pc then
          bif Nat.ble 1527 pc then
           bif Nat.ble 1528 pc then
            bif Nat.beq pc 1528 then some (.ldc2_w 18, 3, [], .inr (.inl (4294967295)), []) else none
           else
            bif Nat.beq pc 1527 then some (.i2l, 1, [], .inl 0, []) else none
          else
           bif Nat.beq pc 1526 then some (.iaload, 1, [], .inl 0, []) else none
         else
          bif Nat.ble 1525 pc then
           bif Nat.beq pc 1525 then some (.iadd, 1, [], .inl 0, []) else none
          else
           bif Nat.beq pc 1524 then some (.iconst 2, 1, [], .inl (2), []) else none
        else
         bif Nat.ble 1521 pc then
          bif Nat.ble 1522 pc then
           bif Nat.ble 1523 pc then
            bif Nat.beq pc 1523 then some (.iload_n 3, 1, [], .inl 0, []) else none
           else
            bif Nat.beq pc 1522 then some (.aload_n 0, 1, [], .inl 0, []) else none
          else
           bif Nat.beq pc 1521 then some (.lshl, 1, [], .inl 0, []) else none
         else
          bif Nat.ble 1519 pc then
           bif Nat.beq pc 1519 then some (.bipush 32, 2, [], .inl (32), []) else none
          else
           bif Nat.beq pc 1518 then some (.i2l, 1, [], .inl 0, []) else none
       else
        bif Nat.ble 1513 pc then
         bif Nat.ble 1515 pc then
          bif Nat.ble 1516 pc then
           bif Nat.ble 1517 pc then
            bif Nat.beq pc 1517 then some (.iaload, 1, [], .inl 0, []) else none
           else
            bif Nat.beq pc 1516 then some (.iadd, 1, [], .inl 0, []) else none
          else
           bif Nat.beq pc 1515 then some (.iconst 1, 1, [], .inl (1), []) else none
         else
          bif Nat.ble 1514 pc then
           bif Nat.beq pc 1514 then some (.iload_n 3, 1, [], .inl 0, []) else none
          else
           bif Nat.beq pc 1513 then some (.aload_n 0, 1, [], .inl 0, []) else none
        else
         bif Nat.ble 1508 pc then
          bif Nat.ble 1509 pc then
           bif Nat.ble 1512 pc then
            bif Nat.beq pc 1512 then some (.aload_n 2, 1, [], .inl 0, []) else none
           else
            bif Nat.beq pc 1509 then some (.invokevirtual 149, 3, [103, 4, 1, 8, 11], .inl 0, []) else none
          else
           bif Nat.beq pc 1508 then some (.iaload, 1, [], .inl 0, []) else none
         else
          bif Nat.ble 1507 pc then
           bif Nat.beq pc 1507 then some (.iadd, 1, [], .inl 0, []) else none
          else
           bif Nat.beq pc 1506 then some (.iconst 5, 1, [], .inl (5), []) else none
      else
       bif Nat.ble 1494 pc then
        bif Nat.ble 1499 pc then
         bif Nat.ble 1503 pc then
          bif Nat.ble 1504 pc then
           bif Nat.ble 1505 pc then
            bif Nat.beq pc 1505 then some (.iload_n 3, 1, [], .inl 0, []) else none
           else
            bif Nat.beq pc 1504 then some (.aload_n 0, 1, [], .inl 0, []) else none
          else
           bif Nat.beq pc 1503 then some (.lor, 1, [], .inl 0, []) else none
         else
          bif Nat.ble 1502 pc then
           bif Nat.beq pc 1502 then some (.land, 1, [], .inl 0, []) else none
          else
           bif Nat.beq pc 1499 then some (.ldc2_w 18, 3, [], .inr (.inl (4294967295)), []) else none
        else
         bif Nat.ble 1496 pc then
          bif Nat.ble 1497 pc then
           bif Nat.ble 1498 pc then
            bif Nat.beq pc 1498 then some (.i2l, 1, [], .inl 0, []) else none
           else
            bif Nat.beq pc 1497 then some (.iaload, 1, [], .inl 0, []) else none
          else
           bif Nat.beq pc 1496 then some (.iadd, 1, [], .inl 0, []) else none
         else
          bif Nat.ble 1495 pc then
           bif Nat.beq pc 1495 then some (.iconst 4, 1, [], .inl (4), []) else none
          else
           bif Nat.beq pc 1494 then some (.iload_n 3, 1, [], .inl 0, []) else none
       else
        bif Nat.ble 1488 pc then
         bif Nat.ble 1490 pc then
          bif Nat.ble 1492 pc then
           bif Nat.ble 1493 pc then
            bif Nat.beq pc 1493 then some (.aload_n 0, 1, [], .inl 0, []) else none
           else
            bif Nat.beq pc 1492 then some (.lshl, 1, [], .inl 0, []) else none
          else
           bif Nat.beq pc 1490 then some (.bipush 32, 2, [], .inl (32), []) else none
         else
          bif Nat.ble 1489 pc then
           bif Nat.beq pc 1489 then some (.i2l, 1, [], .inl 0, []) else none
          else
           bif Nat.beq pc 1488 then some (.iaload, 1, [], .inl 0, []) else none
        else
         bif Nat.ble 1485 pc then
          bif Nat.ble 1486 pc then
           bif Nat.ble 1487 pc then
            bif Nat.beq pc 1487 then some (.iadd, 1, [], .inl 0, []) else none
           else
            bif Nat.beq pc 1486 then some (.iconst 3, 1, [], .inl (3), []) else none
          else
           bif Nat.beq pc 1485 then some (.iload_n 3, 1, [], .inl 0, []) else none
         else
          bif Nat.ble 1484 pc then
           bif Nat.beq pc 1484 then some (.aload_n 0, 1, [], .inl 0, []) else none
          else
           bif Nat.beq pc 1483 then some (.lor, 1, [], .inl 0, []) else none
     else
      bif Nat.ble 1458 pc then
       bif Nat.ble 1470 pc then
        bif Nat.ble 1476 pc then
         bif Nat.ble 1478 pc then
          bif Nat.ble 1479 pc then
           bif Nat.ble 1482 pc then
            bif Nat.beq pc 1482 then some (.land, 1, [], .inl 0, []) else none
           else
            bif Nat.beq pc 1479 then some (.ldc2_w 18, 3, [], .inr (.inl (4294967295)), []) else none
          else
           bif Nat.beq pc 1478 then some (.i2l, 1, [], .inl 0, []) else none
         else
          bif Nat.ble 1477 pc then
           bif Nat.beq pc 1477 then some (.iaload, 1, [], .inl 0, []) else none
          else
           bif Nat.beq pc 1476 then some (.iadd, 1, [], .inl 0, []) else none
        else
         bif Nat.ble 1473 pc then
          bif Nat.ble 1474 pc then
           bif Nat.ble 1475 pc then
            bif Nat.beq pc 1475 then some (.iconst 2, 1, [], .inl (2), []) else none
           else
            bif Nat.beq pc 1474 then some (.iload_n 3, 1, [], .inl 0, []) else none
          else
           bif Nat.beq pc 1473 then some (.aload_n 0, 1, [], .inl 0, []) else none
         else
          bif Nat.ble 1472 pc then
           bif Nat.beq pc 1472 then some (.lshl, 1, [], .inl 0, []) else none
          else
           bif Nat.beq pc 1470 then some (.bipush 32, 2, [], .inl (32), []) else none
       else
        bif Nat.ble 1465 pc then
         bif Nat.ble 1467 pc then
          bif Nat.ble 1468 pc then
           bif Nat.ble 1469 pc then
            bif Nat.beq pc 1469 then some (.i2l, 1, [], .inl 0, []) else none
           else
            bif Nat.beq pc 1468 then some (.iaload, 1, [], .inl 0, []) else none
          else
           bif Nat.beq pc 1467 then some (.iadd, 1, [], .inl 0, []) else none
         else
          bif Nat.ble 1466 pc then
           bif Nat.beq pc 1466 then some (.iconst 1, 1, [], .inl (1), []) else none
          else
           bif Nat.beq pc 1465 then some (.iload_n 3, 1, [], .inl 0, []) else none
        else
         bif Nat.ble 1462 pc then
          bif Nat.ble 1463 pc then
           bif Nat.ble 1464 pc then
            bif Nat.beq pc 1464 then some (.aload_n 0, 1, [], .inl 0, []) else none
           else
            bif Nat.beq pc 1463 then some (.aload_n 1, 1, [], .inl 0, []) else none
          else
           bif Nat.beq pc 1462 then some (.ireturn, 1, [1], .inl 0, []) else none
         else
          bif Nat.ble 1461 pc then
           bif Nat.beq pc 1461 then some (.iconst 0, 1, [], .inl (0), []) else none
          else
           bif Nat.beq pc 1458 then some (.if_icmp .eq 259, 3, [], .inl 0, []) else none
      else
       bif Nat.ble 1446 pc then
        bif Nat.ble 1451 pc then
         bif Nat.ble 1453 pc then
          bif Nat.ble 1454 pc then
           bif Nat.ble 1455 pc then
            bif Nat.beq pc 1455 then some (.invokevirtual 148, 3, [224, 3, 1, 3, 12], .inl 0, []) else none
           else
            bif Nat.beq pc 1454 then some (.iaload, 1, [], .inl 0, []) else none
          else
           bif Nat.beq pc 1453 then some (.iadd, 1, [], .inl 0, []) else none
         else
          bif Nat.ble 1452 pc then
           bif Nat.beq pc 1452 then some (.iconst 2, 1, [], .inl (2), []) else none
          else
           bif Nat.beq pc 1451 then some (.iload_n 3, 1, [], .inl 0, []) else none
        else
         bif Nat.ble 1448 pc then
          bif Nat.ble 1449 pc then
           bif Nat.ble 1450 pc then
            bif Nat.beq pc 1450 then some (.aload_n 0, 1, [], .inl 0, []) else none
           else
            bif Nat.beq pc 1449 then some (.iaload, 1, [], .inl 0, []) else none
          else
           bif Nat.beq pc 1448 then some (.iadd, 1, [], .inl 0, []) else none
         else
          bif Nat.ble 1447 pc then
           bif Nat.beq pc 1447 then some (.iconst 1, 1, [], .inl (1), []) else none
          else
           bif Nat.beq pc 1446 then some (.iload_n 3, 1, [], .inl 0, []) else none
       else
        bif Nat.ble 1439 pc then
         bif Nat.ble 1441 pc then
          bif Nat.ble 1444 pc then
           bif Nat.ble 1445 pc then
            bif Nat.beq pc 1445 then some (.aload_n 0, 1, [], .inl 0, []) else none
           else
            bif Nat.beq pc 1444 then some (.aload_n 2, 1, [], .inl 0, []) else none
          else
           bif Nat.beq pc 1441 then some (.invokevirtual 145, 3, [102, 3, 1, 4, 11], .inl 0, []) else none
         else
          bif Nat.ble 1440 pc then
           bif Nat.beq pc 1440 then some (.iaload, 1, [], .inl 0, []) else none
          else
           bif Nat.beq pc 1439 then some (.iadd, 1, [], .inl 0, []) else none
        else
         bif Nat.ble 1437 pc then
          bif Nat.ble 1438 pc then
           bif Nat.beq pc 1438 then some (.iconst 2, 1, [], .inl (2), []) else none
          else
           bif Nat.beq pc 1437 then some (.iload_n 3, 1, [], .inl 0, []) else none
         else
          bif Nat.ble 1436 pc then
           bif Nat.beq pc 1436 then some (.aload_n 0, 1, [], .inl 0, []) else none
          else
           bif Nat.beq pc 1435 then some (.iaload, 1, [], .inl 0, []) else none
    else
     bif Nat.ble 1384 pc then
      bif Nat.ble 1409 pc then
       bif Nat.ble 1421 pc then
        bif Nat.ble 1430 pc then
         bif Nat.ble 1432 pc then
          bif Nat.ble 1433 pc then
           bif Nat.ble 1434 pc then
            bif Nat.beq pc 1434 then some (.iadd, 1, [], .inl 0, []) else none
           else
            bif Nat.beq pc 1433 then some (.iconst 1, 1, [], .inl (1), []) else none
          else
           bif Nat.beq pc 1432 then some (.iload_n 3, 1, [], .inl 0, []) else none
         else
          bif Nat.ble 1431 pc then
           bif Nat.beq pc 1431 then some (.aload_n 0, 1, [], .inl 0, []) else none
          else
           bif Nat.beq pc 1430 then some (.aload_n 1, 1, [], .inl 0, []) else none
        else
         bif Nat.ble 1425 pc then
          bif Nat.ble 1428 pc then
           bif Nat.ble 1429 pc then
            bif Nat.beq pc 1429 then some (.ireturn, 1, [1], .inl 0, []) else none
           else
            bif Nat.beq pc 1428 then some (.iconst 0, 1, [], .inl (0), []) else none
          else
           bif Nat.beq pc 1425 then some (.if_icmp .eq 292, 3, [], .inl 0, []) else none
         else
          bif Nat.ble 1422 pc then
           bif Nat.beq pc 1422 then some (.invokevirtual 144, 3, [222, 2, 1, 10, 12], .inl 0, []) else none
          else
           bif Nat.beq pc 1421 then some (.iaload, 1, [], .inl 0, []) else none
       else
        bif Nat.ble 1416 pc then
         bif Nat.ble 1418 pc then
          bif Nat.ble 1419 pc then
           bif Nat.ble 1420 pc then
            bif Nat.beq pc 1420 then some (.iadd, 1, [], .inl 0, []) else none
           else
            bif Nat.beq pc 1419 then some (.iconst 1, 1, [], .inl (1), []) else none
          else
           bif Nat.beq pc 1418 then some (.iload_n 3, 1, [], .inl 0, []) else none
         else
          bif Nat.ble 1417 pc then
           bif Nat.beq pc 1417 then some (.aload_n 0, 1, [], .inl 0, []) else none
          else
           bif Nat.beq pc 1416 then some (.aload_n 2, 1, [], .inl 0, []) else none
        else
         bif Nat.ble 1411 pc then
          bif Nat.ble 1412 pc then
           bif Nat.ble 1413 pc then
            bif Nat.beq pc 1413 then some (.invokevirtual 141, 3, [101, 2, 1, 3, 11], .inl 0, []) else none
           else
            bif Nat.beq pc 1412 then some (.iaload, 1, [], .inl 0, []) else none
          else
           bif Nat.beq pc 1411 then some (.iadd, 1, [], .inl 0, []) else none
         else
          bif Nat.ble 1410 pc then
           bif Nat.beq pc 1410 then some (.iconst 1, 1, [], .inl (1), []) else none
          else
           bif Nat.beq pc 1409 then some (.iload_n 3, 1, [], .inl 0, []) else none
      else
       bif Nat.ble 1395 pc then
        bif Nat.ble 1402 pc then
         bif Nat.ble 1406 pc then
          bif Nat.ble 1407 pc then
           bif Nat.ble 1408 pc then
            bif Nat.beq pc 1408 then some (.aload_n 0, 1, [], .inl 0, []) else none
           else
            bif Nat.beq pc 1407 then some (.aload_n 1, 1, [], .inl 0, []) else none
          else
           bif Nat.beq pc 1406 then some (.ireturn, 1, [1], .inl 0, []) else none
         else
          bif Nat.ble 1405 pc then
           bif Nat.beq pc 1405 then some (.iconst 0, 1, [], .inl (0), []) else none
          else
           bif Nat.beq pc 1402 then some (.if_icmp .eq 315, 3, [], .inl 0, []) else none
        else
         bif Nat.ble 1397 pc then
          bif Nat.ble 1398 pc then
           bif Nat.ble 1399 pc then
            bif Nat.beq pc 1399 then some (.invokevirtual 140, 3, [213, 2, 1, 8, 12], .inl 0, []) else none
           else
            bif Nat.beq pc 1398 then some (.iaload, 1, [], .inl 0, []) else none
          else
           bif Nat.beq pc 1397 then some (.iadd, 1, [], .inl 0, []) else none
         else
          bif Nat.ble 1396 pc then
           bif Nat.beq pc 1396 then some (.iconst 1, 1, [], .inl (1), []) else none
          else
           bif Nat.beq pc 1395 then some (.iload_n 3, 1, [], .inl 0, []) else none
       else
        bif Nat.ble 1388 pc then
         bif Nat.ble 1390 pc then
          bif Nat.ble 1393 pc then
           bif Nat.ble 1394 pc then
            bif Nat.beq pc 1394 then some (.aload_n 0, 1, [], .inl 0, []) else none
           else
            bif Nat.beq pc 1393 then some (.aload_n 2, 1, [], .inl 0, []) else none
          else
           bif Nat.beq pc 1390 then some (.invokevirtual 137, 3, [100, 2, 1, 3, 11], .inl 0, []) else none
         else
          bif Nat.ble 1389 pc then
           bif Nat.beq pc 1389 then some (.iaload, 1, [], .inl 0, []) else none
          else
           bif Nat.beq pc 1388 then some (.iadd, 1, [], .inl 0, []) else none
        else
         bif Nat.ble 1386 pc then
          bif Nat.ble 1387 pc then
           bif Nat.beq pc 1387 then some (.iconst 1, 1, [], .inl (1), []) else none
          else
           bif Nat.beq pc 1386 then some (.iload_n 3, 1, [], .inl 0, []) else none
         else
          bif Nat.ble 1385 pc then
           bif Nat.beq pc 1385 then some (.aload_n 0, 1, [], .inl 0, []) else none
          else
           bif Nat.beq pc 1384 then some (.aload_n 1, 1, [], .inl 0, []) else none
     else
      bif Nat.ble 1356 pc then
       bif Nat.ble 1370 pc then
        bif Nat.ble 1375 pc then
         bif Nat.ble 1379 pc then
          bif Nat.ble 1382 pc then
           bif Nat.ble 1383 pc then
            bif Nat.beq pc 1383 then some (.ireturn, 1, [1], .inl 0, []) else none
           else
            bif Nat.beq pc 1382 then some (.iconst 0, 1, [], .inl (0), []) else none
          else
           bif Nat.beq pc 1379 then some (.if_icmp .eq 338, 3, [], .inl 0, []) else none
         else
          bif Nat.ble 1376 pc then
           bif Nat.beq pc 1376 then some (.invokevirtual 136, 3, [188, 2, 1, 2, 12], .inl 0, []) else none
          else
           bif Nat.beq pc 1375 then some (.iaload, 1, [], .inl 0, []) else none
        else
         bif Nat.ble 1372 pc then
          bif Nat.ble 1373 pc then
           bif Nat.ble 1374 pc then
            bif Nat.beq pc 1374 then some (.iadd, 1, [], .inl 0, []) else none
           else
            bif Nat.beq pc 1373 then some (.iconst 1, 1, [], .inl (1), []) else none
          else
           bif Nat.beq pc 1372 then some (.iload_n 3, 1, [], .inl 0, []) else none
         else
          bif Nat.ble 1371 pc then
           bif Nat.beq pc 1371 then some (.aload_n 0, 1, [], .inl 0, []) else none
          else
           bif Nat.beq pc 1370 then some (.aload_n 2, 1, [], .inl 0, []) else none
       else
        bif Nat.ble 1363 pc then
         bif Nat.ble 1365 pc then
          bif Nat.ble 1366 pc then
           bif Nat.ble 1367 pc then
            bif Nat.beq pc 1367 then some (.invokevirtual 133, 3, [99, 2, 1, 2, 11], .inl 0, []) else none
           else
            bif Nat.beq pc 1366 then some (.iaload, 1, [], .inl 0, []) else none
          else
           bif Nat.beq pc 1365 then some (.iadd, 1, [], .inl 0, []) else none
         else
          bif Nat.ble 1364 pc then
           bif Nat.beq pc 1364 then some (.iconst 1, 1, [], .inl (1), []) else none
          else
           bif Nat.beq pc 1363 then some (.iload_n 3, 1, [], .inl 0, []) else none
        else
         bif Nat.ble 1360 pc then
          bif Nat.ble 1361 pc then
           bif Nat.ble 1362 pc then
            bif Nat.beq pc 1362 then some (.aload_n 0, 1, [], .inl 0, []) else none
           else
            bif Nat.beq pc 1361 then some (.aload_n 1, 1, [], .inl 0, []) else none
          else
           bif Nat.beq pc 1360 then some (.ireturn, 1, [1], .inl 0, []) else none
         else
          bif Nat.ble 1359 pc then
           bif Nat.beq pc 1359 then some (.iconst 0, 1, [], .inl (0), []) else none
          else
           bif Nat.beq pc 1356 then some (.ifCond .eq 361, 3, [], .inl 0, []) else none
      else
       bif Nat.ble 1344 pc then
        bif Nat.ble 1349 pc then
         bif Nat.ble 1351 pc then
          bif Nat.ble 1352 pc then
           bif Nat.ble 1355 pc then
            bif Nat.beq pc 1355 then some (.lcmp, 1, [], .inl 0, []) else none
           else
            bif Nat.beq pc 1352 then some (.invokevirtual 132, 3, [211, 5, 2, 8, 12], .inl 0, []) else none
          else
           bif Nat.beq pc 1351 then some (.iaload, 1, [], .inl 0, []) else none
         else
          bif Nat.ble 1350 pc then
           bif Nat.beq pc 1350 then some (.iadd, 1, [], .inl 0, []) else none
          else
           bif Nat.beq pc 1349 then some (.iconst 4, 1, [], .inl (4), []) else none
        else
         bif Nat.ble 1346 pc then
          bif Nat.ble 1347 pc then
           bif Nat.ble 1348 pc then
            bif Nat.beq pc 1348 then some (.iload_n 3, 1, [], .inl 0, []) else none
           else
            bif Nat.beq pc 1347 then some (.aload_n 0, 1, [], .inl 0, []) else none
          else
           bif Nat.beq pc 1346 then some (.iaload, 1, [], .inl 0, []) else none
         else
          bif Nat.ble 1345 pc then
           bif Nat.beq pc 1345 then some (.iadd, 1, [], .inl 0, []) else none
          else
           bif Nat.beq pc 1344 then some (.iconst 3, 1, [], .inl (3), []) else none
       else
        bif Nat.ble 1339 pc then
         bif Nat.ble 1341 pc then
          bif Nat.ble 1342 pc then
           bif Nat.ble 1343 pc then
            bif Nat.beq pc 1343 then some (.iload_n 3, 1, [], .inl 0, []) else none
           else
            bif Nat.beq pc 1342 then some (.aload_n 0, 1, [], .inl 0, []) else none
          else
           bif Nat.beq pc 1341 then some (.iaload, 1, [], .inl 0, []) else none
         else
          bif Nat.ble 1340 pc then
           bif Nat.beq pc 1340 then some (.iadd, 1, [], .inl 0, []) else none
          else
           bif Nat.beq pc 1339 then some (.iconst 2, 1, [], .inl (2), []) else none
        else
         bif Nat.ble 1337 pc then
          bif Nat.ble 1338 pc then
           bif Nat.beq pc 1338 then some (.iload_n 3, 1, [], .inl 0, []) else none
          else
           bif Nat.beq pc 1337 then some (.aload_n 0, 1, [], .inl 0, []) else none
         else
          bif Nat.ble 1336 pc then
           bif Nat.beq pc 1336 then some (.iaload, 1, [], .inl 0, []) else none
          else
           bif Nat.beq pc 1335 then some (.iadd, 1, [], .inl 0, []) else none
  else
   bif Nat.ble 1142 pc then
    bif Nat.ble 1242 pc then
     bif Nat.ble 1287 pc then
      bif Nat.ble 1313 pc then
       bif Nat.ble 1323 pc then
        bif Nat.ble 1328 pc then
         bif Nat.ble 1332 pc then
          bif Nat.ble 1333 pc then
           bif Nat.ble 1334 pc then
            bif Nat.beq pc 1334 then some (.iconst 1, 1, [], .inl (1), []) else none
           else
            bif Nat.beq pc 1333 then some (.iload_n 3, 1, [], .inl 0, []) else none
          else
           bif Nat.beq pc 1332 then some (.aload_n 0, 1, [], .inl 0, []) else none
         else
          bif Nat.ble 1331 pc then
           bif Nat.beq pc 1331 then some (.aload_n 2, 1, [], .inl 0, []) else none
          else
           bif Nat.beq pc 1328 then some (.invokevirtual 128, 3, [98, 5, 2, 8, 11], .inl 0, []) else none
        else
         bif Nat.ble 1325 pc then
          bif Nat.ble 1326 pc then
           bif Nat.ble 1327 pc then
            bif Nat.beq pc 1327 then some (.iaload, 1, [], .inl 0, []) else none
           else
            bif Nat.beq pc 1326 then some (.iadd, 1, [], .inl 0, []) else none
          else
           bif Nat.beq pc 1325 then some (.iconst 4, 1, [], .inl (4), []) else none
         else
          bif Nat.ble 1324 pc then
           bif Nat.beq pc 1324 then some (.iload_n 3, 1, [], .inl 0, []) else none
          else
           bif Nat.beq pc 1323 then some (.aload_n 0, 1, [], .inl 0, []) else none
       else
        bif Nat.ble 1318 pc then
         bif Nat.ble 1320 pc then
          bif Nat.ble 1321 pc then
           bif Nat.ble 1322 pc then
            bif Nat.beq pc 1322 then some (.iaload, 1, [], .inl 0, []) else none
           else
            bif Nat.beq pc 1321 then some (.iadd, 1, [], .inl 0, []) else none
          else
           bif Nat.beq pc 1320 then some (.iconst 3, 1, [], .inl (3), []) else none
         else
          bif Nat.ble 1319 pc then
           bif Nat.beq pc 1319 then some (.iload_n 3, 1, [], .inl 0, []) else none
          else
           bif Nat.beq pc 1318 then some (.aload_n 0, 1, [], .inl 0, []) else none
        else
         bif Nat.ble 1315 pc then
          bif Nat.ble 1316 pc then
           bif Nat.ble 1317 pc then
            bif Nat.beq pc 1317 then some (.iaload, 1, [], .inl 0, []) else none
           else
            bif Nat.beq pc 1316 then some (.iadd, 1, [], .inl 0, []) else none
          else
           bif Nat.beq pc 1315 then some (.iconst 2, 1, [], .inl (2), []) else none
         else
          bif Nat.ble 1314 pc then
           bif Nat.beq pc 1314 then some (.iload_n 3, 1, [], .inl 0, []) else none
          else
           bif Nat.beq pc 1313 then some (.aload_n 0, 1, [], .inl 0, []) else none
      else
       bif Nat.ble 1299 pc then
        bif Nat.ble 1308 pc then
         bif Nat.ble 1310 pc then
          bif Nat.ble 1311 pc then
           bif Nat.ble 1312 pc then
            bif Nat.beq pc 1312 then some (.iaload, 1, [], .inl 0, []) else none
           else
            bif Nat.beq pc 1311 then some (.iadd, 1, [], .inl 0, []) else none
          else
           bif Nat.beq pc 1310 then some (.iconst 1, 1, [], .inl (1), []) else none
         else
          bif Nat.ble 1309 pc then
           bif Nat.beq pc 1309 then some (.iload_n 3, 1, [], .inl 0, []) else none
          else
           bif Nat.beq pc 1308 then some (.aload_n 0, 1, [], .inl 0, []) else none
        else
         bif Nat.ble 1305 pc then
          bif Nat.ble 1306 pc then
           bif Nat.ble 1307 pc then
            bif Nat.beq pc 1307 then some (.aload_n 1, 1, [], .inl 0, []) else none
           else
            bif Nat.beq pc 1306 then some (.ireturn, 1, [1], .inl 0, []) else none
          else
           bif Nat.beq pc 1305 then some (.iconst 0, 1, [], .inl (0), []) else none
         else
          bif Nat.ble 1302 pc then
           bif Nat.beq pc 1302 then some (.if_icmp .eq 415, 3, [], .inl 0, []) else none
          else
           bif Nat.beq pc 1299 then some (.invokevirtual 127, 3, [209, 3, 1, 6, 12], .inl 0, []) else none
       else
        bif Nat.ble 1292 pc then
         bif Nat.ble 1294 pc then
          bif Nat.ble 1297 pc then
           bif Nat.ble 1298 pc then
            bif Nat.beq pc 1298 then some (.lor, 1, [], .inl 0, []) else none
           else
            bif Nat.beq pc 1297 then some (.land, 1, [], .inl 0, []) else none
          else
           bif Nat.beq pc 1294 then some (.ldc2_w 18, 3, [], .inr (.inl (4294967295)), []) else none
         else
          bif Nat.ble 1293 pc then
           bif Nat.beq pc 1293 then some (.i2l, 1, [], .inl 0, []) else none
          else
           bif Nat.beq pc 1292 then some (.iaload, 1, [], .inl 0, []) else none
        else
         bif Nat.ble 1289 pc then
          bif Nat.ble 1290 pc then
           bif Nat.ble 1291 pc then
            bif Nat.beq pc 1291 then some (.iadd, 1, [], .inl 0, []) else none
           else
            bif Nat.beq pc 1290 then some (.iconst 3, 1, [], .inl (3), []) else none
          else
           bif Nat.beq pc 1289 then some (.iload_n 3, 1, [], .inl 0, []) else none
         else
          bif Nat.ble 1288 pc then
           bif Nat.beq pc 1288 then some (.aload_n 0, 1, [], .inl 0, []) else none
          else
           bif Nat.beq pc 1287 then some (.lshl, 1, [], .inl 0, []) else none
     else
      bif Nat.ble 1262 pc then
       bif Nat.ble 1276 pc then
        bif Nat.ble 1281 pc then
         bif Nat.ble 1283 pc then
          bif Nat.ble 1284 pc then
           bif Nat.ble 1285 pc then
            bif Nat.beq pc 1285 then some (.bipush 32, 2, [], .inl (32), []) else none
           else
            bif Nat.beq pc 1284 then some (.i2l, 1, [], .inl 0, []) else none
          else
           bif Nat.beq pc 1283 then some (.iaload, 1, [], .inl 0, []) else none
         else
          bif Nat.ble 1282 pc then
           bif Nat.beq pc 1282 then some (.iadd, 1, [], .inl 0, []) else none
          else
           bif Nat.beq pc 1281 then some (.iconst 2, 1, [], .inl (2), []) else none
        else
         bif Nat.ble 1278 pc then
          bif Nat.ble 1279 pc then
           bif Nat.ble 1280 pc then
            bif Nat.beq pc 1280 then some (.iload_n 3, 1, [], .inl 0, []) else none
           else
            bif Nat.beq pc 1279 then some (.aload_n 0, 1, [], .inl 0, []) else none
          else
           bif Nat.beq pc 1278 then some (.iaload, 1, [], .inl 0, []) else none
         else
          bif Nat.ble 1277 pc then
           bif Nat.beq pc 1277 then some (.iadd, 1, [], .inl 0, []) else none
          else
           bif Nat.beq pc 1276 then some (.iconst 1, 1, [], .inl (1), []) else none
       else
        bif Nat.ble 1269 pc then
         bif Nat.ble 1273 pc then
          bif Nat.ble 1274 pc then
           bif Nat.ble 1275 pc then
            bif Nat.beq pc 1275 then some (.iload_n 3, 1, [], .inl 0, []) else none
           else
            bif Nat.beq pc 1274 then some (.aload_n 0, 1, [], .inl 0, []) else none
          else
           bif Nat.beq pc 1273 then some (.aload_n 2, 1, [], .inl 0, []) else none
         else
          bif Nat.ble 1270 pc then
           bif Nat.beq pc 1270 then some (.invokevirtual 124, 3, [97, 3, 1, 7, 11], .inl 0, []) else none
          else
           bif Nat.beq pc 1269 then some (.lor, 1, [], .inl 0, []) else none
        else
         bif Nat.ble 1264 pc then
          bif Nat.ble 1265 pc then
           bif Nat.ble 1268 pc then
            bif Nat.beq pc 1268 then some (.land, 1, [], .inl 0, []) else none
           else
            bif Nat.beq pc 1265 then some (.ldc2_w 18, 3, [], .inr (.inl (4294967295)), []) else none
          else
           bif Nat.beq pc 1264 then some (.i2l, 1, [], .inl 0, []) else none
         else
          bif Nat.ble 1263 pc then
           bif Nat.beq pc 1263 then some (.iaload, 1, [], .inl 0, []) else none
          else
           bif Nat.beq pc 1262 then some (.iadd, 1, [], .inl 0, []) else none
      else
       bif Nat.ble 1251 pc then
        bif Nat.ble 1256 pc then
         bif Nat.ble 1259 pc then
          bif Nat.ble 1260 pc then
           bif Nat.ble 1261 pc then
            bif Nat.beq pc 1261 then some (.iconst 3, 1, [], .inl (3), []) else none
           else
            bif Nat.beq pc 1260 then some (.iload_n 3, 1, [], .inl 0, []) else none
          else
           bif Nat.beq pc 1259 then some (.aload_n 0, 1, [], .inl 0, []) else none
         else
          bif Nat.ble 1258 pc then
           bif Nat.beq pc 1258 then some (.lshl, 1, [], .inl 0, []) else none
          else
           bif Nat.beq pc 1256 then some (.bipush 32, 2, [], .inl (32), []) else none
        else
         bif Nat.ble 1253 pc then
          bif Nat.ble 1254 pc then
           bif Nat.ble 1255 pc then
            bif Nat.beq pc 1255 then some (.i2l, 1, [], .inl 0, []) else none
           else
            bif Nat.beq pc 1254 then some (.iaload, 1, [], .inl 0, []) else none
          else
           bif Nat.beq pc 1253 then some (.iadd, 1, [], .inl 0, []) else none
         else
          bif Nat.ble 1252 pc then
           bif Nat.beq pc 1252 then some (.iconst 2, 1, [], .inl (2), []) else none
          else
           bif Nat.beq pc 1251 then some (.iload_n 3, 1, [], .inl 0, []) else none
       else
        bif Nat.ble 1246 pc then
         bif Nat.ble 1248 pc then
          bif Nat.ble 1249 pc then
           bif Nat.ble 1250 pc then
            bif Nat.beq pc 1250 then some (.aload_n 0, 1, [], .inl 0, []) else none
           else
            bif Nat.beq pc 1249 then some (.iaload, 1, [], .inl 0, []) else none
          else
           bif Nat.beq pc 1248 then some (.iadd, 1, [], .inl 0, []) else none
         else
          bif Nat.ble 1247 pc then
           bif Nat.beq pc 1247 then some (.iconst 1, 1, [], .inl (1), []) else none
          else
           bif Nat.beq pc 1246 then some (.iload_n 3, 1, [], .inl 0, []) else none
        else
         bif Nat.ble 1244 pc then
          bif Nat.ble 1245 pc then
           bif Nat.beq pc 1245 then some (.aload_n 0, 1, [], .inl 0, []) else none
          else
           bif Nat.beq pc 1244 then some (.aload_n 1, 1, [], .inl 0, []) else none
         else
          bif Nat.ble 1243 pc then
           bif Nat.beq pc 1243 then some (.ireturn, 1, [1], .inl 0, []) else none
          else
           bif Nat.beq pc 1242 then some (.iconst 0, 1, [], .inl (0), []) else none
    else
     bif Nat.ble 1193 pc then
      bif Nat.ble 1216 pc then
       bif Nat.ble 1228 pc then
        bif Nat.ble 1233 pc then
         bif Nat.ble 1235 pc then
          bif Nat.ble 1236 pc then
           bif Nat.ble 1239 pc then
            bif Nat.beq pc 1239 then some (.if_icmp .eq 478, 3, [], .inl 0, []) else none
           else
            bif Nat.beq pc 1236 then some (.invokevirtual 123, 3, [208, 3, 1, 6, 12], .inl 0, []) else none
          else
           bif Nat.beq pc 1235 then some (.iaload, 1, [], .inl 0, []) else none
         else
          bif Nat.ble 1234 pc then
           bif Nat.beq pc 1234 then some (.iadd, 1, [], .inl 0, []) else none
          else
           bif Nat.beq pc 1233 then some (.iconst 2, 1, [], .inl (2), []) else none
        else
         bif Nat.ble 1230 pc then
          bif Nat.ble 1231 pc then
           bif Nat.ble 1232 pc then
            bif Nat.beq pc 1232 then some (.iload_n 3, 1, [], .inl 0, []) else none
           else
            bif Nat.beq pc 1231 then some (.aload_n 0, 1, [], .inl 0, []) else none
          else
           bif Nat.beq pc 1230 then some (.iaload, 1, [], .inl 0, []) else none
         else
          bif Nat.ble 1229 pc then
           bif Nat.beq pc 1229 then some (.iadd, 1, [], .inl 0, []) else none
          else
           bif Nat.beq pc 1228 then some (.iconst 1, 1, [], .inl (1), []) else none
       else
        bif Nat.ble 1221 pc then
         bif Nat.ble 1225 pc then
          bif Nat.ble 1226 pc then
           bif Nat.ble 1227 pc then
            bif Nat.beq pc 1227 then some (.iload_n 3, 1, [], .inl 0, []) else none
           else
            bif Nat.beq pc 1226 then some (.aload_n 0, 1, [], .inl 0, []) else none
          else
           bif Nat.beq pc 1225 then some (.aload_n 2, 1, [], .inl 0, []) else none
         else
          bif Nat.ble 1222 pc then
           bif Nat.beq pc 1222 then some (.invokevirtual 120, 3, [96, 3, 1, 5, 11], .inl 0, []) else none
          else
           bif Nat.beq pc 1221 then some (.iaload, 1, [], .inl 0, []) else none
        else
         bif Nat.ble 1218 pc then
          bif Nat.ble 1219 pc then
           bif Nat.ble 1220 pc then
            bif Nat.beq pc 1220 then some (.iadd, 1, [], .inl 0, []) else none
           else
            bif Nat.beq pc 1219 then some (.iconst 2, 1, [], .inl (2), []) else none
          else
           bif Nat.beq pc 1218 then some (.iload_n 3, 1, [], .inl 0, []) else none
         else
          bif Nat.ble 1217 pc then
           bif Nat.beq pc 1217 then some (.aload_n 0, 1, [], .inl 0, []) else none
          else
           bif Nat.beq pc 1216 then some (.iaload, 1, [], .inl 0, []) else none
      else
       bif Nat.ble 1202 pc then
        bif Nat.ble 1211 pc then
         bif Nat.ble 1213 pc then
          bif Nat.ble 1214 pc then
           bif Nat.ble 1215 pc then
            bif Nat.beq pc 1215 then some (.iadd, 1, [], .inl 0, []) else none
           else
            bif Nat.beq pc 1214 then some (.iconst 1, 1, [], .inl (1), []) else none
          else
           bif Nat.beq pc 1213 then some (.iload_n 3, 1, [], .inl 0, []) else none
         else
          bif Nat.ble 1212 pc then
           bif Nat.beq pc 1212 then some (.aload_n 0, 1, [], .inl 0, []) else none
          else
           bif Nat.beq pc 1211 then some (.aload_n 1, 1, [], .inl 0, []) else none
        else
         bif Nat.ble 1206 pc then
          bif Nat.ble 1209 pc then
           bif Nat.ble 1210 pc then
            bif Nat.beq pc 1210 then some (.ireturn, 1, [1], .inl 0, []) else none
           else
            bif Nat.beq pc 1209 then some (.iconst 0, 1, [], .inl (0), []) else none
          else
           bif Nat.beq pc 1206 then some (.if_icmp .eq 511, 3, [], .inl 0, []) else none
         else
          bif Nat.ble 1203 pc then
           bif Nat.beq pc 1203 then some (.invokevirtual 119, 3, [206, 3, 1, 3, 12], .inl 0, []) else none
          else
           bif Nat.beq pc 1202 then some (.iaload, 1, [], .inl 0, []) else none
       else
        bif Nat.ble 1197 pc then
         bif Nat.ble 1199 pc then
          bif Nat.ble 1200 pc then
           bif Nat.ble 1201 pc then
            bif Nat.beq pc 1201 then some (.iadd, 1, [], .inl 0, []) else none
           else
            bif Nat.beq pc 1200 then some (.iconst 2, 1, [], .inl (2), []) else none
          else
           bif Nat.beq pc 1199 then some (.iload_n 3, 1, [], .inl 0, []) else none
         else
          bif Nat.ble 1198 pc then
           bif Nat.beq pc 1198 then some (.aload_n 0, 1, [], .inl 0, []) else none
          else
           bif Nat.beq pc 1197 then some (.iaload, 1, [], .inl 0, []) else none
        else
         bif Nat.ble 1195 pc then
          bif Nat.ble 1196 pc then
           bif Nat.beq pc 1196 then some (.iadd, 1, [], .inl 0, []) else none
          else
           bif Nat.beq pc 1195 then some (.iconst 1, 1, [], .inl (1), []) else none
         else
          bif Nat.ble 1194 pc then
           bif Nat.beq pc 1194 then some (.iload_n 3, 1, [], .inl 0, []) else none
          else
           bif Nat.beq pc 1193 then some (.aload_n 0, 1, [], .inl 0, []) else none
     else
      bif Nat.ble 1167 pc then
       bif Nat.ble 1181 pc then
        bif Nat.ble 1186 pc then
         bif Nat.ble 1188 pc then
          bif Nat.ble 1189 pc then
           bif Nat.ble 1192 pc then
            bif Nat.beq pc 1192 then some (.aload_n 2, 1, [], .inl 0, []) else none
           else
            bif Nat.beq pc 1189 then some (.invokevirtual 116, 3, [95, 3, 1, 5, 11], .inl 0, []) else none
          else
           bif Nat.beq pc 1188 then some (.iaload, 1, [], .inl 0, []) else none
         else
          bif Nat.ble 1187 pc then
           bif Nat.beq pc 1187 then some (.iadd, 1, [], .inl 0, []) else none
          else
           bif Nat.beq pc 1186 then some (.iconst 2, 1, [], .inl (2), []) else none
        else
         bif Nat.ble 1183 pc then
          bif Nat.ble 1184 pc then
           bif Nat.ble 1185 pc then
            bif Nat.beq pc 1185 then some (.iload_n 3, 1, [], .inl 0, []) else none
           else
            bif Nat.beq pc 1184 then some (.aload_n 0, 1, [], .inl 0, []) else none
          else
           bif Nat.beq pc 1183 then some (.iaload, 1, [], .inl 0, []) else none
         else
          bif Nat.ble 1182 pc then
           bif Nat.beq pc 1182 then some (.iadd, 1, [], .inl 0, []) else none
          else
           bif Nat.beq pc 1181 then some (.iconst 1, 1, [], .inl (1), []) else none
       else
        bif Nat.ble 1176 pc then
         bif Nat.ble 1178 pc then
          bif Nat.ble 1179 pc then
           bif Nat.ble 1180 pc then
            bif Nat.beq pc 1180 then some (.iload_n 3, 1, [], .inl 0, []) else none
           else
            bif Nat.beq pc 1179 then some (.aload_n 0, 1, [], .inl 0, []) else none
          else
           bif Nat.beq pc 1178 then some (.aload_n 1, 1, [], .inl 0, []) else none
         else
          bif Nat.ble 1177 pc then
           bif Nat.beq pc 1177 then some (.ireturn, 1, [1], .inl 0, []) else none
          else
           bif Nat.beq pc 1176 then some (.iconst 0, 1, [], .inl (0), []) else none
        else
         bif Nat.ble 1169 pc then
          bif Nat.ble 1170 pc then
           bif Nat.ble 1173 pc then
            bif Nat.beq pc 1173 then some (.if_icmp .eq 544, 3, [], .inl 0, []) else none
           else
            bif Nat.beq pc 1170 then some (.invokevirtual 115, 3, [205, 2, 1, 2, 12], .inl 0, []) else none
          else
           bif Nat.beq pc 1169 then some (.iaload, 1, [], .inl 0, []) else none
         else
          bif Nat.ble 1168 pc then
           bif Nat.beq pc 1168 then some (.iadd, 1, [], .inl 0, []) else none
          else
           bif Nat.beq pc 1167 then some (.iconst 1, 1, [], .inl (1), []) else none
      else
       bif Nat.ble 1155 pc then
        bif Nat.ble 1160 pc then
         bif Nat.ble 1164 pc then
          bif Nat.ble 1165 pc then
           bif Nat.ble 1166 pc then
            bif Nat.beq pc 1166 then some (.iload_n 3, 1, [], .inl 0, []) else none
           else
            bif Nat.beq pc 1165 then some (.aload_n 0, 1, [], .inl 0, []) else none
          else
           bif Nat.beq pc 1164 then some (.aload_n 2, 1, [], .inl 0, []) else none
         else
          bif Nat.ble 1161 pc then
           bif Nat.beq pc 1161 then some (.invokevirtual 112, 3, [94, 2, 1, 3, 11], .inl 0, []) else none
          else
           bif Nat.beq pc 1160 then some (.iaload, 1, [], .inl 0, []) else none
        else
         bif Nat.ble 1157 pc then
          bif Nat.ble 1158 pc then
           bif Nat.ble 1159 pc then
            bif Nat.beq pc 1159 then some (.iadd, 1, [], .inl 0, []) else none
           else
            bif Nat.beq pc 1158 then some (.iconst 1, 1, [], .inl (1), []) else none
          else
           bif Nat.beq pc 1157 then some (.iload_n 3, 1, [], .inl 0, []) else none
         else
          bif Nat.ble 1156 pc then
           bif Nat.beq pc 1156 then some (.aload_n 0, 1, [], .inl 0, []) else none
          else
           bif Nat.beq pc 1155 then some (.aload_n 1, 1, [], .inl 0, []) else none
       else
        bif Nat.ble 1146 pc then
         bif Nat.ble 1150 pc then
          bif Nat.ble 1153 pc then
           bif Nat.ble 1154 pc then
            bif Nat.beq pc 1154 then some (.ireturn, 1, [1], .inl 0, []) else none
           else
            bif Nat.beq pc 1153 then some (.iconst 0, 1, [], .inl (0), []) else none
          else
           bif Nat.beq pc 1150 then some (.ifCond .eq 567, 3, [], .inl 0, []) else none
         else
          bif Nat.ble 1149 pc then
           bif Nat.beq pc 1149 then some (.lcmp, 1, [], .inl 0, []) else none
          else
           bif Nat.beq pc 1146 then some (.invokevirtual 111, 3, [204, 3, 2, 3, 12], .inl 0, []) else none
        else
         bif Nat.ble 1144 pc then
          bif Nat.ble 1145 pc then
           bif Nat.beq pc 1145 then some (.iaload, 1, [], .inl 0, []) else none
          else
           bif Nat.beq pc 1144 then some (.iadd, 1, [], .inl 0, []) else none
         else
          bif Nat.ble 1143 pc then
           bif Nat.beq pc 1143 then some (.iconst 2, 1, [], .inl (2), []) else none
          else
           bif Nat.beq pc 1142 then some (.iload_n 3, 1, [], .inl 0, []) else none
   else
    bif Nat.ble 1042 pc then
     bif Nat.ble 1090 pc then
      bif Nat.ble 1120 pc then
       bif Nat.ble 1130 pc then
        bif Nat.ble 1137 pc then
         bif Nat.ble 1139 pc then
          bif Nat.ble 1140 pc then
           bif Nat.ble 1141 pc then
            bif Nat.beq pc 1141 then some (.aload_n 0, 1, [], .inl 0, []) else none
           else
            bif Nat.beq pc 1140 then some (.iaload, 1, [], .inl 0, []) else none
          else
           bif Nat.beq pc 1139 then some (.iadd, 1, [], .inl 0, []) else none
         else
          bif Nat.ble 1138 pc then
           bif Nat.beq pc 1138 then some (.iconst 1, 1, [], .inl (1), []) else none
          else
           bif Nat.beq pc 1137 then some (.iload_n 3, 1, [], .inl 0, []) else none
        else
         bif Nat.ble 1132 pc then
          bif Nat.ble 1135 pc then
           bif Nat.ble 1136 pc then
            bif Nat.beq pc 1136 then some (.aload_n 0, 1, [], .inl 0, []) else none
           else
            bif Nat.beq pc 1135 then some (.aload_n 2, 1, [], .inl 0, []) else none
          else
           bif Nat.beq pc 1132 then some (.invokevirtual 108, 3, [93, 3, 2, 5, 11], .inl 0, []) else none
         else
          bif Nat.ble 1131 pc then
           bif Nat.beq pc 1131 then some (.iaload, 1, [], .inl 0, []) else none
          else
           bif Nat.beq pc 1130 then some (.iadd, 1, [], .inl 0, []) else none
       else
        bif Nat.ble 1125 pc then
         bif Nat.ble 1127 pc then
          bif Nat.ble 1128 pc then
           bif Nat.ble 1129 pc then
            bif Nat.beq pc 1129 then some (.iconst 2, 1, [], .inl (2), []) else none
           else
            bif Nat.beq pc 1128 then some (.iload_n 3, 1, [], .inl 0, []) else none
          else
           bif Nat.beq pc 1127 then some (.aload_n 0, 1, [], .inl 0, []) else none
         else
          bif Nat.ble 1126 pc then
           bif Nat.beq pc 1126 then some (.iaload, 1, [], .inl 0, []) else none
          else
           bif Nat.beq pc 1125 then some (.iadd, 1, [], .inl 0, []) else none
        else
         bif Nat.ble 1122 pc then
          bif Nat.ble 1123 pc then
           bif Nat.ble 1124 pc then
            bif Nat.beq pc 1124 then some (.iconst 1, 1, [], .inl (1), []) else none
           else
            bif Nat.beq pc 1123 then some (.iload_n 3, 1, [], .inl 0, []) else none
          else
           bif Nat.beq pc 1122 then some (.aload_n 0, 1, [], .inl 0, []) else none
         else
          bif Nat.ble 1121 pc then
           bif Nat.beq pc 1121 then some (.aload_n 1, 1, [], .inl 0, []) else none
          else
           bif Nat.beq pc 1120 then some (.ireturn, 1, [1], .inl 0, []) else none
      else
       bif Nat.ble 1104 pc then
        bif Nat.ble 1111 pc then
         bif Nat.ble 1113 pc then
          bif Nat.ble 1116 pc then
           bif Nat.ble 1119 pc then
            bif Nat.beq pc 1119 then some (.iconst 0, 1, [], .inl (0), []) else none
           else
            bif Nat.beq pc 1116 then some (.if_icmp .eq 601, 3, [], .inl 0, []) else none
          else
           bif Nat.beq pc 1113 then some (.invokevirtual 107, 3, [203, 2, 1, 2, 12], .inl 0, []) else none
         else
          bif Nat.ble 1112 pc then
           bif Nat.beq pc 1112 then some (.iaload, 1, [], .inl 0, []) else none
          else
           bif Nat.beq pc 1111 then some (.iadd, 1, [], .inl 0, []) else none
        else
         bif Nat.ble 1108 pc then
          bif Nat.ble 1109 pc then
           bif Nat.ble 1110 pc then
            bif Nat.beq pc 1110 then some (.iconst 1, 1, [], .inl (1), []) else none
           else
            bif Nat.beq pc 1109 then some (.iload_n 3, 1, [], .inl 0, []) else none
          else
           bif Nat.beq pc 1108 then some (.aload_n 0, 1, [], .inl 0, []) else none
         else
          bif Nat.ble 1107 pc then
           bif Nat.beq pc 1107 then some (.aload_n 2, 1, [], .inl 0, []) else none
          else
           bif Nat.beq pc 1104 then some (.invokevirtual 104, 3, [92, 2, 1, 2, 11], .inl 0, []) else none
       else
        bif Nat.ble 1099 pc then
         bif Nat.ble 1101 pc then
          bif Nat.ble 1102 pc then
           bif Nat.ble 1103 pc then
            bif Nat.beq pc 1103 then some (.iaload, 1, [], .inl 0, []) else none
           else
            bif Nat.beq pc 1102 then some (.iadd, 1, [], .inl 0, []) else none
          else
           bif Nat.beq pc 1101 then some (.iconst 1, 1, [], .inl (1), []) else none
         else
          bif Nat.ble 1100 pc then
           bif Nat.beq pc 1100 then some (.iload_n 3, 1, [], .inl 0, []) else none
          else
           bif Nat.beq pc 1099 then some (.aload_n 0, 1, [], .inl 0, []) else none
        else
         bif Nat.ble 1096 pc then
          bif Nat.ble 1097 pc then
           bif Nat.ble 1098 pc then
            bif Nat.beq pc 1098 then some (.aload_n 1, 1, [], .inl 0, []) else none
           else
            bif Nat.beq pc 1097 then some (.ireturn, 1, [1], .inl 0, []) else none
          else
           bif Nat.beq pc 1096 then some (.iconst 0, 1, [], .inl (0), []) else none
         else
          bif Nat.ble 1093 pc then
           bif Nat.beq pc 1093 then some (.if_icmp .eq 624, 3, [], .inl 0, []) else none
          else
           bif Nat.beq pc 1090 then some (.invokevirtual 103, 3, [202, 2, 1, 4, 12], .inl 0, []) else none
     else
      bif Nat.ble 1062 pc then
       bif Nat.ble 1078 pc then
        bif Nat.ble 1085 pc then
         bif Nat.ble 1087 pc then
          bif Nat.ble 1088 pc then
           bif Nat.ble 1089 pc then
            bif Nat.beq pc 1089 then some (.iaload, 1, [], .inl 0, []) else none
           else
            bif Nat.beq pc 1088 then some (.iadd, 1, [], .inl 0, []) else none
          else
           bif Nat.beq pc 1087 then some (.iconst 1, 1, [], .inl (1), []) else none
         else
          bif Nat.ble 1086 pc then
           bif Nat.beq pc 1086 then some (.iload_n 3, 1, [], .inl 0, []) else none
          else
           bif Nat.beq pc 1085 then some (.aload_n 0, 1, [], .inl 0, []) else none
        else
         bif Nat.ble 1080 pc then
          bif Nat.ble 1081 pc then
           bif Nat.ble 1084 pc then
            bif Nat.beq pc 1084 then some (.aload_n 2, 1, [], .inl 0, []) else none
           else
            bif Nat.beq pc 1081 then some (.invokevirtual 100, 3, [91, 2, 1, 4, 11], .inl 0, []) else none
          else
           bif Nat.beq pc 1080 then some (.iaload, 1, [], .inl 0, []) else none
         else
          bif Nat.ble 1079 pc then
           bif Nat.beq pc 1079 then some (.iadd, 1, [], .inl 0, []) else none
          else
           bif Nat.beq pc 1078 then some (.iconst 1, 1, [], .inl (1), []) else none
       else
        bif Nat.ble 1073 pc then
         bif Nat.ble 1075 pc then
          bif Nat.ble 1076 pc then
           bif Nat.ble 1077 pc then
            bif Nat.beq pc 1077 then some (.iload_n 3, 1, [], .inl 0, []) else none
           else
            bif Nat.beq pc 1076 then some (.aload_n 0, 1, [], .inl 0, []) else none
          else
           bif Nat.beq pc 1075 then some (.aload_n 1, 1, [], .inl 0, []) else none
         else
          bif Nat.ble 1074 pc then
           bif Nat.beq pc 1074 then some (.ireturn, 1, [1], .inl 0, []) else none
          else
           bif Nat.beq pc 1073 then some (.iconst 0, 1, [], .inl (0), []) else none
        else
         bif Nat.ble 1066 pc then
          bif Nat.ble 1067 pc then
           bif Nat.ble 1070 pc then
            bif Nat.beq pc 1070 then some (.if_icmp .eq 647, 3, [], .inl 0, []) else none
           else
            bif Nat.beq pc 1067 then some (.invokevirtual 99, 3, [195, 3, 1, 4, 12], .inl 0, []) else none
          else
           bif Nat.beq pc 1066 then some (.lor, 1, [], .inl 0, []) else none
         else
          bif Nat.ble 1065 pc then
           bif Nat.beq pc 1065 then some (.land, 1, [], .inl 0, []) else none
          else
           bif Nat.beq pc 1062 then some (.ldc2_w 18, 3, [], .inr (.inl (4294967295)), []) else none
      else
       bif Nat.ble 1051 pc then
        bif Nat.ble 1057 pc then
         bif Nat.ble 1059 pc then
          bif Nat.ble 1060 pc then
           bif Nat.ble 1061 pc then
            bif Nat.beq pc 1061 then some (.i2l, 1, [], .inl 0, []) else none
           else
            bif Nat.beq pc 1060 then some (.iaload, 1, [], .inl 0, []) else none
          else
           bif Nat.beq pc 1059 then some (.iadd, 1, [], .inl 0, []) else none
         else
          bif Nat.ble 1058 pc then
           bif Nat.beq pc 1058 then some (.iconst 3, 1, [], .inl (3), []) else none
          else
           bif Nat.beq pc 1057 then some (.iload_n 3, 1, [], .inl 0, []) else none
        else
         bif Nat.ble 1053 pc then
          bif Nat.ble 1055 pc then
           bif Nat.ble 1056 pc then
            bif Nat.beq pc 1056 then some (.aload_n 0, 1, [], .inl 0, []) else none
           else
            bif Nat.beq pc 1055 then some (.lshl, 1, [], .inl 0, []) else none
          else
           bif Nat.beq pc 1053 then some (.bipush 32, 2, [], .inl (32), []) else none
         else
          bif Nat.ble 1052 pc then
           bif Nat.beq pc 1052 then some (.i2l, 1, [], .inl 0, []) else none
          else
           bif Nat.beq pc 1051 then some (.iaload, 1, [], .inl 0, []) else none
       else
        bif Nat.ble 1046 pc then
         bif Nat.ble 1048 pc then
          bif Nat.ble 1049 pc then
           bif Nat.ble 1050 pc then
            bif Nat.beq pc 1050 then some (.iadd, 1, [], .inl 0, []) else none
           else
            bif Nat.beq pc 1049 then some (.iconst 2, 1, [], .inl (2), []) else none
          else
           bif Nat.beq pc 1048 then some (.iload_n 3, 1, [], .inl 0, []) else none
         else
          bif Nat.ble 1047 pc then
           bif Nat.beq pc 1047 then some (.aload_n 0, 1, [], .inl 0, []) else none
          else
           bif Nat.beq pc 1046 then some (.iaload, 1, [], .inl 0, []) else none
        else
         bif Nat.ble 1044 pc then
          bif Nat.ble 1045 pc then
           bif Nat.beq pc 1045 then some (.iadd, 1, [], .inl 0, []) else none
          else
           bif Nat.beq pc 1044 then some (.iconst 1, 1, [], .inl (1), []) else none
         else
          bif Nat.ble 1043 pc then
           bif Nat.beq pc 1043 then some (.iload_n 3, 1, [], .inl 0, []) else none
          else
           bif Nat.beq pc 1042 then some (.aload_n 0, 1, [], .inl 0, []) else none
    else
     bif Nat.ble 992 pc then
      bif Nat.ble 1017 pc then
       bif Nat.ble 1028 pc then
        bif Nat.ble 1033 pc then
         bif Nat.ble 1037 pc then
          bif Nat.ble 1038 pc then
           bif Nat.ble 1041 pc then
            bif Nat.beq pc 1041 then some (.aload_n 2, 1, [], .inl 0, []) else none
           else
            bif Nat.beq pc 1038 then some (.invokevirtual 95, 3, [90, 3, 1, 4, 11], .inl 0, []) else none
          else
           bif Nat.beq pc 1037 then some (.lor, 1, [], .inl 0, []) else none
         else
          bif Nat.ble 1036 pc then
           bif Nat.beq pc 1036 then some (.land, 1, [], .inl 0, []) else none
          else
           bif Nat.beq pc 1033 then some (.ldc2_w 18, 3, [], .inr (.inl (4294967295)), []) else none
        else
         bif Nat.ble 1030 pc then
          bif Nat.ble 1031 pc then
           bif Nat.ble 1032 pc then
            bif Nat.beq pc 1032 then some (.i2l, 1, [], .inl 0, []) else none
           else
            bif Nat.beq pc 1031 then some (.iaload, 1, [], .inl 0, []) else none
          else
           bif Nat.beq pc 1030 then some (.iadd, 1, [], .inl 0, []) else none
         else
          bif Nat.ble 1029 pc then
           bif Nat.beq pc 1029 then some (.iconst 3, 1, [], .inl (3), []) else none
          else
           bif Nat.beq pc 1028 then some (.iload_n 3, 1, [], .inl 0, []) else none
       else
        bif Nat.ble 1022 pc then
         bif Nat.ble 1024 pc then
          bif Nat.ble 1026 pc then
           bif Nat.ble 1027 pc then
            bif Nat.beq pc 1027 then some (.aload_n 0, 1, [], .inl 0, []) else none
           else
            bif Nat.beq pc 1026 then some (.lshl, 1, [], .inl 0, []) else none
          else
           bif Nat.beq pc 1024 then some (.bipush 32, 2, [], .inl (32), []) else none
         else
          bif Nat.ble 1023 pc then
           bif Nat.beq pc 1023 then some (.i2l, 1, [], .inl 0, []) else none
          else
           bif Nat.beq pc 1022 then some (.iaload, 1, [], .inl 0, []) else none
        else
         bif Nat.ble 1019 pc then
          bif Nat.ble 1020 pc then
           bif Nat.ble 1021 pc then
            bif Nat.beq pc 1021 then some (.iadd, 1, [], .inl 0, []) else none
           else
            bif Nat.beq pc 1020 then some (.iconst 2, 1, [], .inl (2), []) else none
          else
           bif Nat.beq pc 1019 then some (.iload_n 3, 1, [], .inl 0, []) else none
         else
          bif Nat.ble 1018 pc then
           bif Nat.beq pc 1018 then some (.aload_n 0, 1, [], .inl 0, []) else none
          else
           bif Nat.beq pc 1017 then some (.iaload, 1, [], .inl 0, []) else none
      else
       bif Nat.ble 1003 pc then
        bif Nat.ble 1012 pc then
         bif Nat.ble 1014 pc then
          bif Nat.ble 1015 pc then
           bif Nat.ble 1016 pc then
            bif Nat.beq pc 1016 then some (.iadd, 1, [], .inl 0, []) else none
           else
            bif Nat.beq pc 1015 then some (.iconst 1, 1, [], .inl (1), []) else none
          else
           bif Nat.beq pc 1014 then some (.iload_n 3, 1, [], .inl 0, []) else none
         else
          bif Nat.ble 1013 pc then
           bif Nat.beq pc 1013 then some (.aload_n 0, 1, [], .inl 0, []) else none
          else
           bif Nat.beq pc 1012 then some (.aload_n 1, 1, [], .inl 0, []) else none
        else
         bif Nat.ble 1007 pc then
          bif Nat.ble 1010 pc then
           bif Nat.ble 1011 pc then
            bif Nat.beq pc 1011 then some (.ireturn, 1, [1], .inl 0, []) else none
           else
            bif Nat.beq pc 1010 then some (.iconst 0, 1, [], .inl (0), []) else none
          else
           bif Nat.beq pc 1007 then some (.if_icmp .eq 710, 3, [], .inl 0, []) else none
         else
          bif Nat.ble 1004 pc then
           bif Nat.beq pc 1004 then some (.invokevirtual 94, 3, [194, 2, 1, 2, 12], .inl 0, []) else none
          else
           bif Nat.beq pc 1003 then some (.iaload, 1, [], .inl 0, []) else none
       else
        bif Nat.ble 998 pc then
         bif Nat.ble 1000 pc then
          bif Nat.ble 1001 pc then
           bif Nat.ble 1002 pc then
            bif Nat.beq pc 1002 then some (.iadd, 1, [], .inl 0, []) else none
           else
            bif Nat.beq pc 1001 then some (.iconst 1, 1, [], .inl (1), []) else none
          else
           bif Nat.beq pc 1000 then some (.iload_n 3, 1, [], .inl 0, []) else none
         else
          bif Nat.ble 999 pc then
           bif Nat.beq pc 999 then some (.aload_n 0, 1, [], .inl 0, []) else none
          else
           bif Nat.beq pc 998 then some (.aload_n 2, 1, [], .inl 0, []) else none
        else
         bif Nat.ble 994 pc then
          bif Nat.ble 995 pc then
           bif Nat.beq pc 995 then some (.invokevirtual 90, 3, [89, 2, 1, 3, 11], .inl 0, []) else none
          else
           bif Nat.beq pc 994 then some (.iaload, 1, [], .inl 0, []) else none
         else
          bif Nat.ble 993 pc then
           bif Nat.beq pc 993 then some (.iadd, 1, [], .inl 0, []) else none
          else
           bif Nat.beq pc 992 then some (.iconst 1, 1, [], .inl (1), []) else none
     else
      bif Nat.ble 966 pc then
       bif Nat.ble 978 pc then
        bif Nat.ble 987 pc then
         bif Nat.ble 989 pc then
          bif Nat.ble 990 pc then
           bif Nat.ble 991 pc then
            bif Nat.beq pc 991 then some (.iload_n 3, 1, [], .inl 0, []) else none
           else
            bif Nat.beq pc 990 then some (.aload_n 0, 1, [], .inl 0, []) else none
          else
           bif Nat.beq pc 989 then some (.aload_n 1, 1, [], .inl 0, []) else none
         else
          bif Nat.ble 988 pc then
           bif Nat.beq pc 988 then some (.ireturn, 1, [1], .inl 0, []) else none
          else
           bif Nat.beq pc 987 then some (.iconst 0, 1, [], .inl (0), []) else none
        else
         bif Nat.ble 980 pc then
          bif Nat.ble 983 pc then
           bif Nat.ble 984 pc then
            bif Nat.beq pc 984 then some (.ifCond .eq 733, 3, [], .inl 0, []) else none
           else
            bif Nat.beq pc 983 then some (.lcmp, 1, [], .inl 0, []) else none
          else
           bif Nat.beq pc 980 then some (.invokevirtual 89, 3, [193, 3, 2, 3, 12], .inl 0, []) else none
         else
          bif Nat.ble 979 pc then
           bif Nat.beq pc 979 then some (.iaload, 1, [], .inl 0, []) else none
          else
           bif Nat.beq pc 978 then some (.iadd, 1, [], .inl 0, []) else none
       else
        bif Nat.ble 973 pc then
         bif Nat.ble 975 pc then
          bif Nat.ble 976 pc then
           bif Nat.ble 977 pc then
            bif Nat.beq pc 977 then some (.iconst 2, 1, [], .inl (2), []) else none
           else
            bif Nat.beq pc 976 then some (.iload_n 3, 1, [], .inl 0, []) else none
          else
           bif Nat.beq pc 975 then some (.aload_n 0, 1, [], .inl 0, []) else none
         else
          bif Nat.ble 974 pc then
           bif Nat.beq pc 974 then some (.iaload, 1, [], .inl 0, []) else none
          else
           bif Nat.beq pc 973 then some (.iadd, 1, [], .inl 0, []) else none
        else
         bif Nat.ble 970 pc then
          bif Nat.ble 971 pc then
           bif Nat.ble 972 pc then
            bif Nat.beq pc 972 then some (.iconst 1, 1, [], .inl (1), []) else none
           else
            bif Nat.beq pc 971 then some (.iload_n 3, 1, [], .inl 0, []) else none
          else
           bif Nat.beq pc 970 then some (.aload_n 0, 1, [], .inl 0, []) else none
         else
          bif Nat.ble 969 pc then
           bif Nat.beq pc 969 then some (.aload_n 2, 1, [], .inl 0, []) else none
          else
           bif Nat.beq pc 966 then some (.invokevirtual 85, 3, [88, 3, 2, 4, 11], .inl 0, []) else none
      else
       bif Nat.ble 956 pc then
        bif Nat.ble 961 pc then
         bif Nat.ble 963 pc then
          bif Nat.ble 964 pc then
           bif Nat.ble 965 pc then
            bif Nat.beq pc 965 then some (.iaload, 1, [], .inl 0, []) else none
           else
            bif Nat.beq pc 964 then some (.iadd, 1, [], .inl 0, []) else none
          else
           bif Nat.beq pc 963 then some (.iconst 2, 1, [], .inl (2), []) else none
         else
          bif Nat.ble 962 pc then
           bif Nat.beq pc 962 then some (.iload_n 3, 1, [], .inl 0, []) else none
          else
           bif Nat.beq pc 961 then some (.aload_n 0, 1, [], .inl 0, []) else none
        else
         bif Nat.ble 958 pc then
          bif Nat.ble 959 pc then
           bif Nat.ble 960 pc then
            bif Nat.beq pc 960 then some (.iaload, 1, [], .inl 0, []) else none
           else
            bif Nat.beq pc 959 then some (.iadd, 1, [], .inl 0, []) else none
          else
           bif Nat.beq pc 958 then some (.iconst 1, 1, [], .inl (1), []) else none
         else
          bif Nat.ble 957 pc then
           bif Nat.beq pc 957 then some (.iload_n 3, 1, [], .inl 0, []) else none
          else
           bif Nat.beq pc 956 then some (.aload_n 0, 1, [], .inl 0, []) else none
       else
        bif Nat.ble 947 pc then
         bif Nat.ble 953 pc then
          bif Nat.ble 954 pc then
           bif Nat.ble 955 pc then
            bif Nat.beq pc 955 then some (.aload_n 1, 1, [], .inl 0, []) else none
           else
            bif Nat.beq pc 954 then some (.ireturn, 1, [1], .inl 0, []) else none
          else
           bif Nat.beq pc 953 then some (.iconst 0, 1, [], .inl (0), []) else none
         else
          bif Nat.ble 950 pc then
           bif Nat.beq pc 950 then some (.if_icmp .eq 767, 3, [], .inl 0, []) else none
          else
           bif Nat.beq pc 947 then some (.invokevirtual 84, 3, [192, 4, 1, 5, 12], .inl 0, []) else none
        else
         bif Nat.ble 945 pc then
          bif Nat.ble 946 pc then
           bif Nat.beq pc 946 then some (.lor, 1, [], .inl 0, []) else none
          else
           bif Nat.beq pc 945 then some (.land, 1, [], .inl 0, []) else none
         else
          bif Nat.ble 942 pc then
           bif Nat.beq pc 942 then some (.ldc2_w 18, 3, [], .inr (.inl (4294967295)), []) else none
          else
           bif Nat.beq pc 941 then some (.i2l, 1, [], .inl 0, []) else none
 else
  bif Nat.ble 563 pc then
   bif Nat.ble 747 pc then
    bif Nat.ble 850 pc then
     bif Nat.ble 895 pc then
      bif Nat.ble 920 pc then
       bif Nat.ble 930 pc then
        bif Nat.ble 936 pc then
         bif Nat.ble 938 pc then
          bif Nat.ble 939 pc then
           bif Nat.ble 940 pc then
            bif Nat.beq pc 940 then some (.iaload, 1, [], .inl 0, []) else none
           else
            bif Nat.beq pc 939 then some (.iadd, 1, [], .inl 0, []) else none
          else
           bif Nat.beq pc 938 then some (.iconst 4, 1, [], .inl (4), []) else none
         else
          bif Nat.ble 937 pc then
           bif Nat.beq pc 937 then some (.iload_n 3, 1, [], .inl 0, []) else none
          else
           bif Nat.beq pc 936 then some (.aload_n 0, 1, [], .inl 0, []) else none
        else
         bif Nat.ble 932 pc then
          bif Nat.ble 933 pc then
           bif Nat.ble 935 pc then
            bif Nat.beq pc 935 then some (.lshl, 1, [], .inl 0, []) else none
           else
            bif Nat.beq pc 933 then some (.bipush 32, 2, [], .inl (32), []) else none
          else
           bif Nat.beq pc 932 then some (.i2l, 1, [], .inl 0, []) else none
         else
          bif Nat.ble 931 pc then
           bif Nat.beq pc 931 then some (.iaload, 1, [], .inl 0, []) else none
          else
           bif Nat.beq pc 930 then some (.iadd, 1, [], .inl 0, []) else none
       else
        bif Nat.ble 925 pc then
         bif Nat.ble 927 pc then
          bif Nat.ble 928 pc then
           bif Nat.ble 929 pc then
            bif Nat.beq pc 929 then some (.iconst 3, 1, [], .inl (3), []) else none
           else
            bif Nat.beq pc 928 then some (.iload_n 3, 1, [], .inl 0, []) else none
          else
           bif Nat.beq pc 927 then some (.aload_n 0, 1, [], .inl 0, []) else none
         else
          bif Nat.ble 926 pc then
           bif Nat.beq pc 926 then some (.iaload, 1, [], .inl 0, []) else none
          else
           bif Nat.beq pc 925 then some (.iadd, 1, [], .inl 0, []) else none
        else
         bif Nat.ble 922 pc then
          bif Nat.ble 923 pc then
           bif Nat.ble 924 pc then
            bif Nat.beq pc 924 then some (.iconst 2, 1, [], .inl (2), []) else none
           else
            bif Nat.beq pc 923 then some (.iload_n 3, 1, [], .inl 0, []) else none
          else
           bif Nat.beq pc 922 then some (.aload_n 0, 1, [], .inl 0, []) else none
         else
          bif Nat.ble 921 pc then
           bif Nat.beq pc 921 then some (.iaload, 1, [], .inl 0, []) else none
          else
           bif Nat.beq pc 920 then some (.iadd, 1, [], .inl 0, []) else none
      else
       bif Nat.ble 906 pc then
        bif Nat.ble 913 pc then
         bif Nat.ble 917 pc then
          bif Nat.ble 918 pc then
           bif Nat.ble 919 pc then
            bif Nat.beq pc 919 then some (.iconst 1, 1, [], .inl (1), []) else none
           else
            bif Nat.beq pc 918 then some (.iload_n 3, 1, [], .inl 0, []) else none
          else
           bif Nat.beq pc 917 then some (.aload_n 0, 1, [], .inl 0, []) else none
         else
          bif Nat.ble 916 pc then
           bif Nat.beq pc 916 then some (.aload_n 2, 1, [], .inl 0, []) else none
          else
           bif Nat.beq pc 913 then some (.invokevirtual 80, 3, [87, 4, 1, 6, 11], .inl 0, []) else none
        else
         bif Nat.ble 908 pc then
          bif Nat.ble 911 pc then
           bif Nat.ble 912 pc then
            bif Nat.beq pc 912 then some (.lor, 1, [], .inl 0, []) else none
           else
            bif Nat.beq pc 911 then some (.land, 1, [], .inl 0, []) else none
          else
           bif Nat.beq pc 908 then some (.ldc2_w 18, 3, [], .inr (.inl (4294967295)), []) else none
         else
          bif Nat.ble 907 pc then
           bif Nat.beq pc 907 then some (.i2l, 1, [], .inl 0, []) else none
          else
           bif Nat.beq pc 906 then some (.iaload, 1, [], .inl 0, []) else none
       else
        bif Nat.ble 901 pc then
         bif Nat.ble 903 pc then
          bif Nat.ble 904 pc then
           bif Nat.ble 905 pc then
            bif Nat.beq pc 905 then some (.iadd, 1, [], .inl 0, []) else none
           else
            bif Nat.beq pc 904 then some (.iconst 4, 1, [], .inl (4), []) else none
          else
           bif Nat.beq pc 903 then some (.iload_n 3, 1, [], .inl 0, []) else none
         else
          bif Nat.ble 902 pc then
           bif Nat.beq pc 902 then some (.aload_n 0, 1, [], .inl 0, []) else none
          else
           bif Nat.beq pc 901 then some (.lshl, 1, [], .inl 0, []) else none
        else
         bif Nat.ble 897 pc then
          bif Nat.ble 898 pc then
           bif Nat.ble 899 pc then
            bif Nat.beq pc 899 then some (.bipush 32, 2, [], .inl (32), []) else none
           else
            bif Nat.beq pc 898 then some (.i2l, 1, [], .inl 0, []) else none
          else
           bif Nat.beq pc 897 then some (.iaload, 1, [], .inl 0, []) else none
         else
          bif Nat.ble 896 pc then
           bif Nat.beq pc 896 then some (.iadd, 1, [], .inl 0, []) else none
          else
           bif Nat.beq pc 895 then some (.iconst 3, 1, [], .inl (3), []) else none
     else
      bif Nat.ble 871 pc then
       bif Nat.ble 885 pc then
        bif Nat.ble 890 pc then
         bif Nat.ble 892 pc then
          bif Nat.ble 893 pc then
           bif Nat.ble 894 pc then
            bif Nat.beq pc 894 then some (.iload_n 3, 1, [], .inl 0, []) else none
           else
            bif Nat.beq pc 893 then some (.aload_n 0, 1, [], .inl 0, []) else none
          else
           bif Nat.beq pc 892 then some (.iaload, 1, [], .inl 0, []) else none
         else
          bif Nat.ble 891 pc then
           bif Nat.beq pc 891 then some (.iadd, 1, [], .inl 0, []) else none
          else
           bif Nat.beq pc 890 then some (.iconst 2, 1, [], .inl (2), []) else none
        else
         bif Nat.ble 887 pc then
          bif Nat.ble 888 pc then
           bif Nat.ble 889 pc then
            bif Nat.beq pc 889 then some (.iload_n 3, 1, [], .inl 0, []) else none
           else
            bif Nat.beq pc 888 then some (.aload_n 0, 1, [], .inl 0, []) else none
          else
           bif Nat.beq pc 887 then some (.iaload, 1, [], .inl 0, []) else none
         else
          bif Nat.ble 886 pc then
           bif Nat.beq pc 886 then some (.iadd, 1, [], .inl 0, []) else none
          else
           bif Nat.beq pc 885 then some (.iconst 1, 1, [], .inl (1), []) else none
       else
        bif Nat.ble 880 pc then
         bif Nat.ble 882 pc then
          bif Nat.ble 883 pc then
           bif Nat.ble 884 pc then
            bif Nat.beq pc 884 then some (.iload_n 3, 1, [], .inl 0, []) else none
           else
            bif Nat.beq pc 883 then some (.aload_n 0, 1, [], .inl 0, []) else none
          else
           bif Nat.beq pc 882 then some (.aload_n 1, 1, [], .inl 0, []) else none
         else
          bif Nat.ble 881 pc then
           bif Nat.beq pc 881 then some (.ireturn, 1, [1], .inl 0, []) else none
          else
           bif Nat.beq pc 880 then some (.iconst 0, 1, [], .inl (0), []) else none
        else
         bif Nat.ble 873 pc then
          bif Nat.ble 874 pc then
           bif Nat.ble 877 pc then
            bif Nat.beq pc 877 then some (.if_icmp .eq 840, 3, [], .inl 0, []) else none
           else
            bif Nat.beq pc 874 then some (.invokevirtual 79, 3, [190, 3, 1, 3, 12], .inl 0, []) else none
          else
           bif Nat.beq pc 873 then some (.iaload, 1, [], .inl 0, []) else none
         else
          bif Nat.ble 872 pc then
           bif Nat.beq pc 872 then some (.iadd, 1, [], .inl 0, []) else none
          else
           bif Nat.beq pc 871 then some (.iconst 2, 1, [], .inl (2), []) else none
      else
       bif Nat.ble 859 pc then
        bif Nat.ble 866 pc then
         bif Nat.ble 868 pc then
          bif Nat.ble 869 pc then
           bif Nat.ble 870 pc then
            bif Nat.beq pc 870 then some (.iload_n 3, 1, [], .inl 0, []) else none
           else
            bif Nat.beq pc 869 then some (.aload_n 0, 1, [], .inl 0, []) else none
          else
           bif Nat.beq pc 868 then some (.iaload, 1, [], .inl 0, []) else none
         else
          bif Nat.ble 867 pc then
           bif Nat.beq pc 867 then some (.iadd, 1, [], .inl 0, []) else none
          else
           bif Nat.beq pc 866 then some (.iconst 1, 1, [], .inl (1), []) else none
        else
         bif Nat.ble 863 pc then
          bif Nat.ble 864 pc then
           bif Nat.ble 865 pc then
            bif Nat.beq pc 865 then some (.iload_n 3, 1, [], .inl 0, []) else none
           else
            bif Nat.beq pc 864 then some (.aload_n 0, 1, [], .inl 0, []) else none
          else
           bif Nat.beq pc 863 then some (.aload_n 2, 1, [], .inl 0, []) else none
         else
          bif Nat.ble 860 pc then
           bif Nat.beq pc 860 then some (.invokevirtual 76, 3, [86, 3, 1, 3, 11], .inl 0, []) else none
          else
           bif Nat.beq pc 859 then some (.iaload, 1, [], .inl 0, []) else none
       else
        bif Nat.ble 854 pc then
         bif Nat.ble 856 pc then
          bif Nat.ble 857 pc then
           bif Nat.ble 858 pc then
            bif Nat.beq pc 858 then some (.iadd, 1, [], .inl 0, []) else none
           else
            bif Nat.beq pc 857 then some (.iconst 2, 1, [], .inl (2), []) else none
          else
           bif Nat.beq pc 856 then some (.iload_n 3, 1, [], .inl 0, []) else none
         else
          bif Nat.ble 855 pc then
           bif Nat.beq pc 855 then some (.aload_n 0, 1, [], .inl 0, []) else none
          else
           bif Nat.beq pc 854 then some (.iaload, 1, [], .inl 0, []) else none
        else
         bif Nat.ble 852 pc then
          bif Nat.ble 853 pc then
           bif Nat.beq pc 853 then some (.iadd, 1, [], .inl 0, []) else none
          else
           bif Nat.beq pc 852 then some (.iconst 1, 1, [], .inl (1), []) else none
         else
          bif Nat.ble 851 pc then
           bif Nat.beq pc 851 then some (.iload_n 3, 1, [], .inl 0, []) else none
          else
           bif Nat.beq pc 850 then some (.aload_n 0, 1, [], .inl 0, []) else none
    else
     bif Nat.ble 794 pc then
      bif Nat.ble 817 pc then
       bif Nat.ble 834 pc then
        bif Nat.ble 841 pc then
         bif Nat.ble 847 pc then
          bif Nat.ble 848 pc then
           bif Nat.ble 849 pc then
            bif Nat.beq pc 849 then some (.aload_n 1, 1, [], .inl 0, []) else none
           else
            bif Nat.beq pc 848 then some (.ireturn, 1, [1], .inl 0, []) else none
          else
           bif Nat.beq pc 847 then some (.iconst 0, 1, [], .inl (0), []) else none
         else
          bif Nat.ble 844 pc then
           bif Nat.beq pc 844 then some (.if_icmp .eq 873, 3, [], .inl 0, []) else none
          else
           bif Nat.beq pc 841 then some (.invokevirtual 75, 3, [186, 1, 1, 3, 12], .inl 0, []) else none
        else
         bif Nat.ble 836 pc then
          bif Nat.ble 837 pc then
           bif Nat.ble 840 pc then
            bif Nat.beq pc 840 then some (.aload_n 2, 1, [], .inl 0, []) else none
           else
            bif Nat.beq pc 837 then some (.invokevirtual 72, 3, [85, 1, 1, 3, 11], .inl 0, []) else none
          else
           bif Nat.beq pc 836 then some (.aload_n 1, 1, [], .inl 0, []) else none
         else
          bif Nat.ble 835 pc then
           bif Nat.beq pc 835 then some (.ireturn, 1, [1], .inl 0, []) else none
          else
           bif Nat.beq pc 834 then some (.iconst 0, 1, [], .inl (0), []) else none
       else
        bif Nat.ble 823 pc then
         bif Nat.ble 827 pc then
          bif Nat.ble 828 pc then
           bif Nat.ble 831 pc then
            bif Nat.beq pc 831 then some (.if_icmp .eq 886, 3, [], .inl 0, []) else none
           else
            bif Nat.beq pc 828 then some (.invokevirtual 71, 3, [185, 6, 1, 9, 12], .inl 0, []) else none
          else
           bif Nat.beq pc 827 then some (.lor, 1, [], .inl 0, []) else none
         else
          bif Nat.ble 826 pc then
           bif Nat.beq pc 826 then some (.land, 1, [], .inl 0, []) else none
          else
           bif Nat.beq pc 823 then some (.ldc2_w 18, 3, [], .inr (.inl (4294967295)), []) else none
        else
         bif Nat.ble 820 pc then
          bif Nat.ble 821 pc then
           bif Nat.ble 822 pc then
            bif Nat.beq pc 822 then some (.i2l, 1, [], .inl 0, []) else none
           else
            bif Nat.beq pc 821 then some (.iaload, 1, [], .inl 0, []) else none
          else
           bif Nat.beq pc 820 then some (.iadd, 1, [], .inl 0, []) else none
         else
          bif Nat.ble 818 pc then
           bif Nat.beq pc 818 then some (.bipush 7, 2, [], .inl (7), []) else none
          else
           bif Nat.beq pc 817 then some (.iload_n 3, 1, [], .inl 0, []) else none
      else
       bif Nat.ble 805 pc then
        bif Nat.ble 811 pc then
         bif Nat.ble 813 pc then
          bif Nat.ble 815 pc then
           bif Nat.ble 816 pc then
            bif Nat.beq pc 816 then some (.aload_n 0, 1, [], .inl 0, []) else none
           else
            bif Nat.beq pc 815 then some (.lshl, 1, [], .inl 0, []) else none
          else
           bif Nat.beq pc 813 then some (.bipush 32, 2, [], .inl (32), []) else none
         else
          bif Nat.ble 812 pc then
           bif Nat.beq pc 812 then some (.i2l, 1, [], .inl 0, []) else none
          else
           bif Nat.beq pc 811 then some (.iaload, 1, [], .inl 0, []) else none
        else
         bif Nat.ble 807 pc then
          bif Nat.ble 808 pc then
           bif Nat.ble 810 pc then
            bif Nat.beq pc 810 then some (.iadd, 1, [], .inl 0, []) else none
           else
            bif Nat.beq pc 808 then some (.bipush 6, 2, [], .inl (6), []) else none
          else
           bif Nat.beq pc 807 then some (.iload_n 3, 1, [], .inl 0, []) else none
         else
          bif Nat.ble 806 pc then
           bif Nat.beq pc 806 then some (.aload_n 0, 1, [], .inl 0, []) else none
          else
           bif Nat.beq pc 805 then some (.lor, 1, [], .inl 0, []) else none
       else
        bif Nat.ble 798 pc then
         bif Nat.ble 800 pc then
          bif Nat.ble 801 pc then
           bif Nat.ble 804 pc then
            bif Nat.beq pc 804 then some (.land, 1, [], .inl 0, []) else none
           else
            bif Nat.beq pc 801 then some (.ldc2_w 18, 3, [], .inr (.inl (4294967295)), []) else none
          else
           bif Nat.beq pc 800 then some (.i2l, 1, [], .inl 0, []) else none
         else
          bif Nat.ble 799 pc then
           bif Nat.beq pc 799 then some (.iaload, 1, [], .inl 0, []) else none
          else
           bif Nat.beq pc 798 then some (.iadd, 1, [], .inl 0, []) else none
        else
         bif Nat.ble 796 pc then
          bif Nat.ble 797 pc then
           bif Nat.beq pc 797 then some (.iconst 5, 1, [], .inl (5), []) else none
          else
           bif Nat.beq pc 796 then some (.iload_n 3, 1, [], .inl 0, []) else none
         else
          bif Nat.ble 795 pc then
           bif Nat.beq pc 795 then some (.aload_n 0, 1, [], .inl 0, []) else none
          else
           bif Nat.beq pc 794 then some (.lshl, 1, [], .inl 0, []) else none
     else
      bif Nat.ble 773 pc then
       bif Nat.ble 783 pc then
        bif Nat.ble 788 pc then
         bif Nat.ble 790 pc then
          bif Nat.ble 791 pc then
           bif Nat.ble 792 pc then
            bif Nat.beq pc 792 then some (.bipush 32, 2, [], .inl (32), []) else none
           else
            bif Nat.beq pc 791 then some (.i2l, 1, [], .inl 0, []) else none
          else
           bif Nat.beq pc 790 then some (.iaload, 1, [], .inl 0, []) else none
         else
          bif Nat.ble 789 pc then
           bif Nat.beq pc 789 then some (.iadd, 1, [], .inl 0, []) else none
          else
           bif Nat.beq pc 788 then some (.iconst 4, 1, [], .inl (4), []) else none
        else
         bif Nat.ble 785 pc then
          bif Nat.ble 786 pc then
           bif Nat.ble 787 pc then
            bif Nat.beq pc 787 then some (.iload_n 3, 1, [], .inl 0, []) else none
           else
            bif Nat.beq pc 786 then some (.aload_n 0, 1, [], .inl 0, []) else none
          else
           bif Nat.beq pc 785 then some (.iaload, 1, [], .inl 0, []) else none
         else
          bif Nat.ble 784 pc then
           bif Nat.beq pc 784 then some (.iadd, 1, [], .inl 0, []) else none
          else
           bif Nat.beq pc 783 then some (.iconst 3, 1, [], .inl (3), []) else none
       else
        bif Nat.ble 778 pc then
         bif Nat.ble 780 pc then
          bif Nat.ble 781 pc then
           bif Nat.ble 782 pc then
            bif Nat.beq pc 782 then some (.iload_n 3, 1, [], .inl 0, []) else none
           else
            bif Nat.beq pc 781 then some (.aload_n 0, 1, [], .inl 0, []) else none
          else
           bif Nat.beq pc 780 then some (.iaload, 1, [], .inl 0, []) else none
         else
          bif Nat.ble 779 pc then
           bif Nat.beq pc 779 then some (.iadd, 1, [], .inl 0, []) else none
          else
           bif Nat.beq pc 778 then some (.iconst 2, 1, [], .inl (2), []) else none
        else
         bif Nat.ble 775 pc then
          bif Nat.ble 776 pc then
           bif Nat.ble 777 pc then
            bif Nat.beq pc 777 then some (.iload_n 3, 1, [], .inl 0, []) else none
           else
            bif Nat.beq pc 776 then some (.aload_n 0, 1, [], .inl 0, []) else none
          else
           bif Nat.beq pc 775 then some (.iaload, 1, [], .inl 0, []) else none
         else
          bif Nat.ble 774 pc then
           bif Nat.beq pc 774 then some (.iadd, 1, [], .inl 0, []) else none
          else
           bif Nat.beq pc 773 then some (.iconst 1, 1, [], .inl (1), []) else none
      else
       bif Nat.ble 759 pc then
        bif Nat.ble 766 pc then
         bif Nat.ble 770 pc then
          bif Nat.ble 771 pc then
           bif Nat.ble 772 pc then
            bif Nat.beq pc 772 then some (.iload_n 3, 1, [], .inl 0, []) else none
           else
            bif Nat.beq pc 771 then some (.aload_n 0, 1, [], .inl 0, []) else none
          else
           bif Nat.beq pc 770 then some (.aload_n 2, 1, [], .inl 0, []) else none
         else
          bif Nat.ble 767 pc then
           bif Nat.beq pc 767 then some (.invokevirtual 67, 3, [84, 6, 1, 10, 11], .inl 0, []) else none
          else
           bif Nat.beq pc 766 then some (.lor, 1, [], .inl 0, []) else none
        else
         bif Nat.ble 761 pc then
          bif Nat.ble 762 pc then
           bif Nat.ble 765 pc then
            bif Nat.beq pc 765 then some (.land, 1, [], .inl 0, []) else none
           else
            bif Nat.beq pc 762 then some (.ldc2_w 18, 3, [], .inr (.inl (4294967295)), []) else none
          else
           bif Nat.beq pc 761 then some (.i2l, 1, [], .inl 0, []) else none
         else
          bif Nat.ble 760 pc then
           bif Nat.beq pc 760 then some (.iaload, 1, [], .inl 0, []) else none
          else
           bif Nat.beq pc 759 then some (.iadd, 1, [], .inl 0, []) else none
       else
        bif Nat.ble 752 pc then
         bif Nat.ble 755 pc then
          bif Nat.ble 756 pc then
           bif Nat.ble 757 pc then
            bif Nat.beq pc 757 then some (.bipush 7, 2, [], .inl (7), []) else none
           else
            bif Nat.beq pc 756 then some (.iload_n 3, 1, [], .inl 0, []) else none
          else
           bif Nat.beq pc 755 then some (.aload_n 0, 1, [], .inl 0, []) else none
         else
          bif Nat.ble 754 pc then
           bif Nat.beq pc 754 then some (.lshl, 1, [], .inl 0, []) else none
          else
           bif Nat.beq pc 752 then some (.bipush 32, 2, [], .inl (32), []) else none
        else
         bif Nat.ble 750 pc then
          bif Nat.ble 751 pc then
           bif Nat.beq pc 751 then some (.i2l, 1, [], .inl 0, []) else none
          else
           bif Nat.beq pc 750 then some (.iaload, 1, [], .inl 0, []) else none
         else
          bif Nat.ble 749 pc then
           bif Nat.beq pc 749 then some (.iadd, 1, [], .inl 0, []) else none
          else
           bif Nat.beq pc 747 then some (.bipush 6, 2, [], .inl (6), []) else none
   else
    bif Nat.ble 659 pc then
     bif Nat.ble 700 pc then
      bif Nat.ble 724 pc then
       bif Nat.ble 735 pc then
        bif Nat.ble 740 pc then
         bif Nat.ble 744 pc then
          bif Nat.ble 745 pc then
           bif Nat.ble 746 pc then
            bif Nat.beq pc 746 then some (.iload_n 3, 1, [], .inl 0, []) else none
           else
            bif Nat.beq pc 745 then some (.aload_n 0, 1, [], .inl 0, []) else none
          else
           bif Nat.beq pc 744 then some (.lor, 1, [], .inl 0, []) else none
         else
          bif Nat.ble 743 pc then
           bif Nat.beq pc 743 then some (.land, 1, [], .inl 0, []) else none
          else
           bif Nat.beq pc 740 then some (.ldc2_w 18, 3, [], .inr (.inl (4294967295)), []) else none
        else
         bif Nat.ble 737 pc then
          bif Nat.ble 738 pc then
           bif Nat.ble 739 pc then
            bif Nat.beq pc 739 then some (.i2l, 1, [], .inl 0, []) else none
           else
            bif Nat.beq pc 738 then some (.iaload, 1, [], .inl 0, []) else none
          else
           bif Nat.beq pc 737 then some (.iadd, 1, [], .inl 0, []) else none
         else
          bif Nat.ble 736 pc then
           bif Nat.beq pc 736 then some (.iconst 5, 1, [], .inl (5), []) else none
          else
           bif Nat.beq pc 735 then some (.iload_n 3, 1, [], .inl 0, []) else none
       else
        bif Nat.ble 729 pc then
         bif Nat.ble 731 pc then
          bif Nat.ble 733 pc then
           bif Nat.ble 734 pc then
            bif Nat.beq pc 734 then some (.aload_n 0, 1, [], .inl 0, []) else none
           else
            bif Nat.beq pc 733 then some (.lshl, 1, [], .inl 0, []) else none
          else
           bif Nat.beq pc 731 then some (.bipush 32, 2, [], .inl (32), []) else none
         else
          bif Nat.ble 730 pc then
           bif Nat.beq pc 730 then some (.i2l, 1, [], .inl 0, []) else none
          else
           bif Nat.beq pc 729 then some (.iaload, 1, [], .inl 0, []) else none
        else
         bif Nat.ble 726 pc then
          bif Nat.ble 727 pc then
           bif Nat.ble 728 pc then
            bif Nat.beq pc 728 then some (.iadd, 1, [], .inl 0, []) else none
           else
            bif Nat.beq pc 727 then some (.iconst 4, 1, [], .inl (4), []) else none
          else
           bif Nat.beq pc 726 then some (.iload_n 3, 1, [], .inl 0, []) else none
         else
          bif Nat.ble 725 pc then
           bif Nat.beq pc 725 then some (.aload_n 0, 1, [], .inl 0, []) else none
          else
           bif Nat.beq pc 724 then some (.iaload, 1, [], .inl 0, []) else none
      else
       bif Nat.ble 714 pc then
        bif Nat.ble 719 pc then
         bif Nat.ble 721 pc then
          bif Nat.ble 722 pc then
           bif Nat.ble 723 pc then
            bif Nat.beq pc 723 then some (.iadd, 1, [], .inl 0, []) else none
           else
            bif Nat.beq pc 722 then some (.iconst 3, 1, [], .inl (3), []) else none
          else
           bif Nat.beq pc 721 then some (.iload_n 3, 1, [], .inl 0, []) else none
         else
          bif Nat.ble 720 pc then
           bif Nat.beq pc 720 then some (.aload_n 0, 1, [], .inl 0, []) else none
          else
           bif Nat.beq pc 719 then some (.iaload, 1, [], .inl 0, []) else none
        else
         bif Nat.ble 716 pc then
          bif Nat.ble 717 pc then
           bif Nat.ble 718 pc then
            bif Nat.beq pc 718 then some (.iadd, 1, [], .inl 0, []) else none
           else
            bif Nat.beq pc 717 then some (.iconst 2, 1, [], .inl (2), []) else none
          else
           bif Nat.beq pc 716 then some (.iload_n 3, 1, [], .inl 0, []) else none
         else
          bif Nat.ble 715 pc then
           bif Nat.beq pc 715 then some (.aload_n 0, 1, [], .inl 0, []) else none
          else
           bif Nat.beq pc 714 then some (.iaload, 1, [], .inl 0, []) else none
       else
        bif Nat.ble 709 pc then
         bif Nat.ble 711 pc then
          bif Nat.ble 712 pc then
           bif Nat.ble 713 pc then
            bif Nat.beq pc 713 then some (.iadd, 1, [], .inl 0, []) else none
           else
            bif Nat.beq pc 712 then some (.iconst 1, 1, [], .inl (1), []) else none
          else
           bif Nat.beq pc 711 then some (.iload_n 3, 1, [], .inl 0, []) else none
         else
          bif Nat.ble 710 pc then
           bif Nat.beq pc 710 then some (.aload_n 0, 1, [], .inl 0, []) else none
          else
           bif Nat.beq pc 709 then some (.aload_n 1, 1, [], .inl 0, []) else none
        else
         bif Nat.ble 704 pc then
          bif Nat.ble 707 pc then
           bif Nat.ble 708 pc then
            bif Nat.beq pc 708 then some (.ireturn, 1, [1], .inl 0, []) else none
           else
            bif Nat.beq pc 707 then some (.iconst 0, 1, [], .inl (0), []) else none
          else
           bif Nat.beq pc 704 then some (.if_icmp .eq 1013, 3, [], .inl 0, []) else none
         else
          bif Nat.ble 701 pc then
           bif Nat.beq pc 701 then some (.invokevirtual 66, 3, [183, 5, 1, 6, 12], .inl 0, []) else none
          else
           bif Nat.beq pc 700 then some (.iaload, 1, [], .inl 0, []) else none
     else
      bif Nat.ble 680 pc then
       bif Nat.ble 690 pc then
        bif Nat.ble 695 pc then
         bif Nat.ble 697 pc then
          bif Nat.ble 698 pc then
           bif Nat.ble 699 pc then
            bif Nat.beq pc 699 then some (.iadd, 1, [], .inl 0, []) else none
           else
            bif Nat.beq pc 698 then some (.iconst 4, 1, [], .inl (4), []) else none
          else
           bif Nat.beq pc 697 then some (.iload_n 3, 1, [], .inl 0, []) else none
         else
          bif Nat.ble 696 pc then
           bif Nat.beq pc 696 then some (.aload_n 0, 1, [], .inl 0, []) else none
          else
           bif Nat.beq pc 695 then some (.iaload, 1, [], .inl 0, []) else none
        else
         bif Nat.ble 692 pc then
          bif Nat.ble 693 pc then
           bif Nat.ble 694 pc then
            bif Nat.beq pc 694 then some (.iadd, 1, [], .inl 0, []) else none
           else
            bif Nat.beq pc 693 then some (.iconst 3, 1, [], .inl (3), []) else none
          else
           bif Nat.beq pc 692 then some (.iload_n 3, 1, [], .inl 0, []) else none
         else
          bif Nat.ble 691 pc then
           bif Nat.beq pc 691 then some (.aload_n 0, 1, [], .inl 0, []) else none
          else
           bif Nat.beq pc 690 then some (.iaload, 1, [], .inl 0, []) else none
       else
        bif Nat.ble 685 pc then
         bif Nat.ble 687 pc then
          bif Nat.ble 688 pc then
           bif Nat.ble 689 pc then
            bif Nat.beq pc 689 then some (.iadd, 1, [], .inl 0, []) else none
           else
            bif Nat.beq pc 688 then some (.iconst 2, 1, [], .inl (2), []) else none
          else
           bif Nat.beq pc 687 then some (.iload_n 3, 1, [], .inl 0, []) else none
         else
          bif Nat.ble 686 pc then
           bif Nat.beq pc 686 then some (.aload_n 0, 1, [], .inl 0, []) else none
          else
           bif Nat.beq pc 685 then some (.iaload, 1, [], .inl 0, []) else none
        else
         bif Nat.ble 682 pc then
          bif Nat.ble 683 pc then
           bif Nat.ble 684 pc then
            bif Nat.beq pc 684 then some (.iadd, 1, [], .inl 0, []) else none
           else
            bif Nat.beq pc 683 then some (.iconst 1, 1, [], .inl (1), []) else none
          else
           bif Nat.beq pc 682 then some (.iload_n 3, 1, [], .inl 0, []) else none
         else
          bif Nat.ble 681 pc then
           bif Nat.beq pc 681 then some (.aload_n 0, 1, [], .inl 0, []) else none
          else
           bif Nat.beq pc 680 then some (.aload_n 2, 1, [], .inl 0, []) else none
      else
       bif Nat.ble 668 pc then
        bif Nat.ble 673 pc then
         bif Nat.ble 675 pc then
          bif Nat.ble 676 pc then
           bif Nat.ble 677 pc then
            bif Nat.beq pc 677 then some (.invokevirtual 62, 3, [83, 5, 1, 7, 11], .inl 0, []) else none
           else
            bif Nat.beq pc 676 then some (.iaload, 1, [], .inl 0, []) else none
          else
           bif Nat.beq pc 675 then some (.iadd, 1, [], .inl 0, []) else none
         else
          bif Nat.ble 674 pc then
           bif Nat.beq pc 674 then some (.iconst 4, 1, [], .inl (4), []) else none
          else
           bif Nat.beq pc 673 then some (.iload_n 3, 1, [], .inl 0, []) else none
        else
         bif Nat.ble 670 pc then
          bif Nat.ble 671 pc then
           bif Nat.ble 672 pc then
            bif Nat.beq pc 672 then some (.aload_n 0, 1, [], .inl 0, []) else none
           else
            bif Nat.beq pc 671 then some (.iaload, 1, [], .inl 0, []) else none
          else
           bif Nat.beq pc 670 then some (.iadd, 1, [], .inl 0, []) else none
         else
          bif Nat.ble 669 pc then
           bif Nat.beq pc 669 then some (.iconst 3, 1, [], .inl (3), []) else none
          else
           bif Nat.beq pc 668 then some (.iload_n 3, 1, [], .inl 0, []) else none
       else
        bif Nat.ble 663 pc then
         bif Nat.ble 665 pc then
          bif Nat.ble 666 pc then
           bif Nat.ble 667 pc then
            bif Nat.beq pc 667 then some (.aload_n 0, 1, [], .inl 0, []) else none
           else
            bif Nat.beq pc 666 then some (.iaload, 1, [], .inl 0, []) else none
          else
           bif Nat.beq pc 665 then some (.iadd, 1, [], .inl 0, []) else none
         else
          bif Nat.ble 664 pc then
           bif Nat.beq pc 664 then some (.iconst 2, 1, [], .inl (2), []) else none
          else
           bif Nat.beq pc 663 then some (.iload_n 3, 1, [], .inl 0, []) else none
        else
         bif Nat.ble 661 pc then
          bif Nat.ble 662 pc then
           bif Nat.beq pc 662 then some (.aload_n 0, 1, [], .inl 0, []) else none
          else
           bif Nat.beq pc 661 then some (.iaload, 1, [], .inl 0, []) else none
         else
          bif Nat.ble 660 pc then
           bif Nat.beq pc 660 then some (.iadd, 1, [], .inl 0, []) else none
          else
           bif Nat.beq pc 659 then some (.iconst 1, 1, [], .inl (1), []) else none
    else
     bif Nat.ble 608 pc then
      bif Nat.ble 633 pc then
       bif Nat.ble 645 pc then
        bif Nat.ble 654 pc then
         bif Nat.ble 656 pc then
          bif Nat.ble 657 pc then
           bif Nat.ble 658 pc then
            bif Nat.beq pc 658 then some (.iload_n 3, 1, [], .inl 0, []) else none
           else
            bif Nat.beq pc 657 then some (.aload_n 0, 1, [], .inl 0, []) else none
          else
           bif Nat.beq pc 656 then some (.aload_n 1, 1, [], .inl 0, []) else none
         else
          bif Nat.ble 655 pc then
           bif Nat.beq pc 655 then some (.ireturn, 1, [1], .inl 0, []) else none
          else
           bif Nat.beq pc 654 then some (.iconst 0, 1, [], .inl (0), []) else none
        else
         bif Nat.ble 647 pc then
          bif Nat.ble 648 pc then
           bif Nat.ble 651 pc then
            bif Nat.beq pc 651 then some (.if_icmp .eq 1066, 3, [], .inl 0, []) else none
           else
            bif Nat.beq pc 648 then some (.invokevirtual 61, 3, [182, 3, 1, 5, 12], .inl 0, []) else none
          else
           bif Nat.beq pc 647 then some (.iaload, 1, [], .inl 0, []) else none
         else
          bif Nat.ble 646 pc then
           bif Nat.beq pc 646 then some (.iadd, 1, [], .inl 0, []) else none
          else
           bif Nat.beq pc 645 then some (.iconst 2, 1, [], .inl (2), []) else none
       else
        bif Nat.ble 640 pc then
         bif Nat.ble 642 pc then
          bif Nat.ble 643 pc then
           bif Nat.ble 644 pc then
            bif Nat.beq pc 644 then some (.iload_n 3, 1, [], .inl 0, []) else none
           else
            bif Nat.beq pc 643 then some (.aload_n 0, 1, [], .inl 0, []) else none
          else
           bif Nat.beq pc 642 then some (.iaload, 1, [], .inl 0, []) else none
         else
          bif Nat.ble 641 pc then
           bif Nat.beq pc 641 then some (.iadd, 1, [], .inl 0, []) else none
          else
           bif Nat.beq pc 640 then some (.iconst 1, 1, [], .inl (1), []) else none
        else
         bif Nat.ble 637 pc then
          bif Nat.ble 638 pc then
           bif Nat.ble 639 pc then
            bif Nat.beq pc 639 then some (.iload_n 3, 1, [], .inl 0, []) else none
           else
            bif Nat.beq pc 638 then some (.aload_n 0, 1, [], .inl 0, []) else none
          else
           bif Nat.beq pc 637 then some (.aload_n 2, 1, [], .inl 0, []) else none
         else
          bif Nat.ble 634 pc then
           bif Nat.beq pc 634 then some (.invokevirtual 58, 3, [82, 3, 1, 4, 11], .inl 0, []) else none
          else
           bif Nat.beq pc 633 then some (.iaload, 1, [], .inl 0, []) else none
      else
       bif Nat.ble 623 pc then
        bif Nat.ble 628 pc then
         bif Nat.ble 630 pc then
          bif Nat.ble 631 pc then
           bif Nat.ble 632 pc then
            bif Nat.beq pc 632 then some (.iadd, 1, [], .inl 0, []) else none
           else
            bif Nat.beq pc 631 then some (.iconst 2, 1, [], .inl (2), []) else none
          else
           bif Nat.beq pc 630 then some (.iload_n 3, 1, [], .inl 0, []) else none
         else
          bif Nat.ble 629 pc then
           bif Nat.beq pc 629 then some (.aload_n 0, 1, [], .inl 0, []) else none
          else
           bif Nat.beq pc 628 then some (.iaload, 1, [], .inl 0, []) else none
        else
         bif Nat.ble 625 pc then
          bif Nat.ble 626 pc then
           bif Nat.ble 627 pc then
            bif Nat.beq pc 627 then some (.iadd, 1, [], .inl 0, []) else none
           else
            bif Nat.beq pc 626 then some (.iconst 1, 1, [], .inl (1), []) else none
          else
           bif Nat.beq pc 625 then some (.iload_n 3, 1, [], .inl 0, []) else none
         else
          bif Nat.ble 624 pc then
           bif Nat.beq pc 624 then some (.aload_n 0, 1, [], .inl 0, []) else none
          else
           bif Nat.beq pc 623 then some (.aload_n 1, 1, [], .inl 0, []) else none
       else
        bif Nat.ble 614 pc then
         bif Nat.ble 618 pc then
          bif Nat.ble 621 pc then
           bif Nat.ble 622 pc then
            bif Nat.beq pc 622 then some (.ireturn, 1, [1], .inl 0, []) else none
           else
            bif Nat.beq pc 621 then some (.iconst 0, 1, [], .inl (0), []) else none
          else
           bif Nat.beq pc 618 then some (.if_icmp .eq 1099, 3, [], .inl 0, []) else none
         else
          bif Nat.ble 615 pc then
           bif Nat.beq pc 615 then some (.invokevirtual 57, 3, [179, 6, 1, 9, 12], .inl 0, []) else none
          else
           bif Nat.beq pc 614 then some (.lor, 1, [], .inl 0, []) else none
        else
         bif Nat.ble 610 pc then
          bif Nat.ble 613 pc then
           bif Nat.beq pc 613 then some (.land, 1, [], .inl 0, []) else none
          else
           bif Nat.beq pc 610 then some (.ldc2_w 18, 3, [], .inr (.inl (4294967295)), []) else none
         else
          bif Nat.ble 609 pc then
           bif Nat.beq pc 609 then some (.i2l, 1, [], .inl 0, []) else none
          else
           bif Nat.beq pc 608 then some (.iaload, 1, [], .inl 0, []) else none
     else
      bif Nat.ble 585 pc then
       bif Nat.ble 595 pc then
        bif Nat.ble 602 pc then
         bif Nat.ble 604 pc then
          bif Nat.ble 605 pc then
           bif Nat.ble 607 pc then
            bif Nat.beq pc 607 then some (.iadd, 1, [], .inl 0, []) else none
           else
            bif Nat.beq pc 605 then some (.bipush 7, 2, [], .inl (7), []) else none
          else
           bif Nat.beq pc 604 then some (.iload_n 3, 1, [], .inl 0, []) else none
         else
          bif Nat.ble 603 pc then
           bif Nat.beq pc 603 then some (.aload_n 0, 1, [], .inl 0, []) else none
          else
           bif Nat.beq pc 602 then some (.lshl, 1, [], .inl 0, []) else none
        else
         bif Nat.ble 598 pc then
          bif Nat.ble 599 pc then
           bif Nat.ble 600 pc then
            bif Nat.beq pc 600 then some (.bipush 32, 2, [], .inl (32), []) else none
           else
            bif Nat.beq pc 599 then some (.i2l, 1, [], .inl 0, []) else none
          else
           bif Nat.beq pc 598 then some (.iaload, 1, [], .inl 0, []) else none
         else
          bif Nat.ble 597 pc then
           bif Nat.beq pc 597 then some (.iadd, 1, [], .inl 0, []) else none
          else
           bif Nat.beq pc 595 then some (.bipush 6, 2, [], .inl (6), []) else none
       else
        bif Nat.ble 590 pc then
         bif Nat.ble 592 pc then
          bif Nat.ble 593 pc then
           bif Nat.ble 594 pc then
            bif Nat.beq pc 594 then some (.iload_n 3, 1, [], .inl 0, []) else none
           else
            bif Nat.beq pc 593 then some (.aload_n 0, 1, [], .inl 0, []) else none
          else
           bif Nat.beq pc 592 then some (.iaload, 1, [], .inl 0, []) else none
         else
          bif Nat.ble 591 pc then
           bif Nat.beq pc 591 then some (.iadd, 1, [], .inl 0, []) else none
          else
           bif Nat.beq pc 590 then some (.iconst 5, 1, [], .inl (5), []) else none
        else
         bif Nat.ble 587 pc then
          bif Nat.ble 588 pc then
           bif Nat.ble 589 pc then
            bif Nat.beq pc 589 then some (.iload_n 3, 1, [], .inl 0, []) else none
           else
            bif Nat.beq pc 588 then some (.aload_n 0, 1, [], .inl 0, []) else none
          else
           bif Nat.beq pc 587 then some (.iaload, 1, [], .inl 0, []) else none
         else
          bif Nat.ble 586 pc then
           bif Nat.beq pc 586 then some (.iadd, 1, [], .inl 0, []) else none
          else
           bif Nat.beq pc 585 then some (.iconst 4, 1, [], .inl (4), []) else none
      else
       bif Nat.ble 573 pc then
        bif Nat.ble 578 pc then
         bif Nat.ble 582 pc then
          bif Nat.ble 583 pc then
           bif Nat.ble 584 pc then
            bif Nat.beq pc 584 then some (.iload_n 3, 1, [], .inl 0, []) else none
           else
            bif Nat.beq pc 583 then some (.aload_n 0, 1, [], .inl 0, []) else none
          else
           bif Nat.beq pc 582 then some (.lor, 1, [], .inl 0, []) else none
         else
          bif Nat.ble 581 pc then
           bif Nat.beq pc 581 then some (.land, 1, [], .inl 0, []) else none
          else
           bif Nat.beq pc 578 then some (.ldc2_w 18, 3, [], .inr (.inl (4294967295)), []) else none
        else
         bif Nat.ble 575 pc then
          bif Nat.ble 576 pc then
           bif Nat.ble 577 pc then
            bif Nat.beq pc 577 then some (.i2l, 1, [], .inl 0, []) else none
           else
            bif Nat.beq pc 576 then some (.iaload, 1, [], .inl 0, []) else none
          else
           bif Nat.beq pc 575 then some (.iadd, 1, [], .inl 0, []) else none
         else
          bif Nat.ble 574 pc then
           bif Nat.beq pc 574 then some (.iconst 3, 1, [], .inl (3), []) else none
          else
           bif Nat.beq pc 573 then some (.iload_n 3, 1, [], .inl 0, []) else none
       else
        bif Nat.ble 567 pc then
         bif Nat.ble 569 pc then
          bif Nat.ble 571 pc then
           bif Nat.ble 572 pc then
            bif Nat.beq pc 572 then some (.aload_n 0, 1, [], .inl 0, []) else none
           else
            bif Nat.beq pc 571 then some (.lshl, 1, [], .inl 0, []) else none
          else
           bif Nat.beq pc 569 then some (.bipush 32, 2, [], .inl (32), []) else none
         else
          bif Nat.ble 568 pc then
           bif Nat.beq pc 568 then some (.i2l, 1, [], .inl 0, []) else none
          else
           bif Nat.beq pc 567 then some (.iaload, 1, [], .inl 0, []) else none
        else
         bif Nat.ble 565 pc then
          bif Nat.ble 566 pc then
           bif Nat.beq pc 566 then some (.iadd, 1, [], .inl 0, []) else none
          else
           bif Nat.beq pc 565 then some (.iconst 2, 1, [], .inl (2), []) else none
         else
          bif Nat.ble 564 pc then
           bif Nat.beq pc 564 then some (.iload_n 3, 1, [], .inl 0, []) else none
          else
           bif Nat.beq pc 563 then some (.aload_n 0, 1, [], .inl 0, []) else none
  else
   bif Nat.ble 352 pc then
    bif Nat.ble 460 pc then
     bif Nat.ble 514 pc then
      bif Nat.ble 537 pc then
       bif Nat.ble 549 pc then
        bif Nat.ble 558 pc then
         bif Nat.ble 560 pc then
          bif Nat.ble 561 pc then
           bif Nat.ble 562 pc then
            bif Nat.beq pc 562 then some (.iaload, 1, [], .inl 0, []) else none
           else
            bif Nat.beq pc 561 then some (.iadd, 1, [], .inl 0, []) else none
          else
           bif Nat.beq pc 560 then some (.iconst 1, 1, [], .inl (1), []) else none
         else
          bif Nat.ble 559 pc then
           bif Nat.beq pc 559 then some (.iload_n 3, 1, [], .inl 0, []) else none
          else
           bif Nat.beq pc 558 then some (.aload_n 0, 1, [], .inl 0, []) else none
        else
         bif Nat.ble 553 pc then
          bif Nat.ble 554 pc then
           bif Nat.ble 557 pc then
            bif Nat.beq pc 557 then some (.aload_n 2, 1, [], .inl 0, []) else none
           else
            bif Nat.beq pc 554 then some (.invokevirtual 53, 3, [81, 6, 1, 9, 11], .inl 0, []) else none
          else
           bif Nat.beq pc 553 then some (.lor, 1, [], .inl 0, []) else none
         else
          bif Nat.ble 552 pc then
           bif Nat.beq pc 552 then some (.land, 1, [], .inl 0, []) else none
          else
           bif Nat.beq pc 549 then some (.ldc2_w 18, 3, [], .inr (.inl (4294967295)), []) else none
       else
        bif Nat.ble 543 pc then
         bif Nat.ble 546 pc then
          bif Nat.ble 547 pc then
           bif Nat.ble 548 pc then
            bif Nat.beq pc 548 then some (.i2l, 1, [], .inl 0, []) else none
           else
            bif Nat.beq pc 547 then some (.iaload, 1, [], .inl 0, []) else none
          else
           bif Nat.beq pc 546 then some (.iadd, 1, [], .inl 0, []) else none
         else
          bif Nat.ble 544 pc then
           bif Nat.beq pc 544 then some (.bipush 7, 2, [], .inl (7), []) else none
          else
           bif Nat.beq pc 543 then some (.iload_n 3, 1, [], .inl 0, []) else none
        else
         bif Nat.ble 539 pc then
          bif Nat.ble 541 pc then
           bif Nat.ble 542 pc then
            bif Nat.beq pc 542 then some (.aload_n 0, 1, [], .inl 0, []) else none
           else
            bif Nat.beq pc 541 then some (.lshl, 1, [], .inl 0, []) else none
          else
           bif Nat.beq pc 539 then some (.bipush 32, 2, [], .inl (32), []) else none
         else
          bif Nat.ble 538 pc then
           bif Nat.beq pc 538 then some (.i2l, 1, [], .inl 0, []) else none
          else
           bif Nat.beq pc 537 then some (.iaload, 1, [], .inl 0, []) else none
      else
       bif Nat.ble 526 pc then
        bif Nat.ble 531 pc then
         bif Nat.ble 533 pc then
          bif Nat.ble 534 pc then
           bif Nat.ble 536 pc then
            bif Nat.beq pc 536 then some (.iadd, 1, [], .inl 0, []) else none
           else
            bif Nat.beq pc 534 then some (.bipush 6, 2, [], .inl (6), []) else none
          else
           bif Nat.beq pc 533 then some (.iload_n 3, 1, [], .inl 0, []) else none
         else
          bif Nat.ble 532 pc then
           bif Nat.beq pc 532 then some (.aload_n 0, 1, [], .inl 0, []) else none
          else
           bif Nat.beq pc 531 then some (.iaload, 1, [], .inl 0, []) else none
        else
         bif Nat.ble 528 pc then
          bif Nat.ble 529 pc then
           bif Nat.ble 530 pc then
            bif Nat.beq pc 530 then some (.iadd, 1, [], .inl 0, []) else none
           else
            bif Nat.beq pc 529 then some (.iconst 5, 1, [], .inl (5), []) else none
          else
           bif Nat.beq pc 528 then some (.iload_n 3, 1, [], .inl 0, []) else none
         else
          bif Nat.ble 527 pc then
           bif Nat.beq pc 527 then some (.aload_n 0, 1, [], .inl 0, []) else none
          else
           bif Nat.beq pc 526 then some (.iaload, 1, [], .inl 0, []) else none
       else
        bif Nat.ble 521 pc then
         bif Nat.ble 523 pc then
          bif Nat.ble 524 pc then
           bif Nat.ble 525 pc then
            bif Nat.beq pc 525 then some (.iadd, 1, [], .inl 0, []) else none
           else
            bif Nat.beq pc 524 then some (.iconst 4, 1, [], .inl (4), []) else none
          else
           bif Nat.beq pc 523 then some (.iload_n 3, 1, [], .inl 0, []) else none
         else
          bif Nat.ble 522 pc then
           bif Nat.beq pc 522 then some (.aload_n 0, 1, [], .inl 0, []) else none
          else
           bif Nat.beq pc 521 then some (.lor, 1, [], .inl 0, []) else none
        else
         bif Nat.ble 516 pc then
          bif Nat.ble 517 pc then
           bif Nat.ble 520 pc then
            bif Nat.beq pc 520 then some (.land, 1, [], .inl 0, []) else none
           else
            bif Nat.beq pc 517 then some (.ldc2_w 18, 3, [], .inr (.inl (4294967295)), []) else none
          else
           bif Nat.beq pc 516 then some (.i2l, 1, [], .inl 0, []) else none
         else
          bif Nat.ble 515 pc then
           bif Nat.beq pc 515 then some (.iaload, 1, [], .inl 0, []) else none
          else
           bif Nat.beq pc 514 then some (.iadd, 1, [], .inl 0, []) else none
     else
      bif Nat.ble 491 pc then
       bif Nat.ble 503 pc then
        bif Nat.ble 508 pc then
         bif Nat.ble 511 pc then
          bif Nat.ble 512 pc then
           bif Nat.ble 513 pc then
            bif Nat.beq pc 513 then some (.iconst 3, 1, [], .inl (3), []) else none
           else
            bif Nat.beq pc 512 then some (.iload_n 3, 1, [], .inl 0, []) else none
          else
           bif Nat.beq pc 511 then some (.aload_n 0, 1, [], .inl 0, []) else none
         else
          bif Nat.ble 510 pc then
           bif Nat.beq pc 510 then some (.lshl, 1, [], .inl 0, []) else none
          else
           bif Nat.beq pc 508 then some (.bipush 32, 2, [], .inl (32), []) else none
        else
         bif Nat.ble 505 pc then
          bif Nat.ble 506 pc then
           bif Nat.ble 507 pc then
            bif Nat.beq pc 507 then some (.i2l, 1, [], .inl 0, []) else none
           else
            bif Nat.beq pc 506 then some (.iaload, 1, [], .inl 0, []) else none
          else
           bif Nat.beq pc 505 then some (.iadd, 1, [], .inl 0, []) else none
         else
          bif Nat.ble 504 pc then
           bif Nat.beq pc 504 then some (.iconst 2, 1, [], .inl (2), []) else none
          else
           bif Nat.beq pc 503 then some (.iload_n 3, 1, [], .inl 0, []) else none
       else
        bif Nat.ble 498 pc then
         bif Nat.ble 500 pc then
          bif Nat.ble 501 pc then
           bif Nat.ble 502 pc then
            bif Nat.beq pc 502 then some (.aload_n 0, 1, [], .inl 0, []) else none
           else
            bif Nat.beq pc 501 then some (.iaload, 1, [], .inl 0, []) else none
          else
           bif Nat.beq pc 500 then some (.iadd, 1, [], .inl 0, []) else none
         else
          bif Nat.ble 499 pc then
           bif Nat.beq pc 499 then some (.iconst 1, 1, [], .inl (1), []) else none
          else
           bif Nat.beq pc 498 then some (.iload_n 3, 1, [], .inl 0, []) else none
        else
         bif Nat.ble 495 pc then
          bif Nat.ble 496 pc then
           bif Nat.ble 497 pc then
            bif Nat.beq pc 497 then some (.aload_n 0, 1, [], .inl 0, []) else none
           else
            bif Nat.beq pc 496 then some (.aload_n 1, 1, [], .inl 0, []) else none
          else
           bif Nat.beq pc 495 then some (.ireturn, 1, [1], .inl 0, []) else none
         else
          bif Nat.ble 494 pc then
           bif Nat.beq pc 494 then some (.iconst 0, 1, [], .inl (0), []) else none
          else
           bif Nat.beq pc 491 then some (.if_icmp .eq 1226, 3, [], .inl 0, []) else none
      else
       bif Nat.ble 473 pc then
        bif Nat.ble 482 pc then
         bif Nat.ble 484 pc then
          bif Nat.ble 487 pc then
           bif Nat.ble 488 pc then
            bif Nat.beq pc 488 then some (.invokevirtual 52, 3, [175, 1, 1, 1, 12], .inl 0, []) else none
           else
            bif Nat.beq pc 487 then some (.aload_n 2, 1, [], .inl 0, []) else none
          else
           bif Nat.beq pc 484 then some (.invokevirtual 49, 3, [80, 1, 1, 1, 11], .inl 0, []) else none
         else
          bif Nat.ble 483 pc then
           bif Nat.beq pc 483 then some (.aload_n 1, 1, [], .inl 0, []) else none
          else
           bif Nat.beq pc 482 then some (.ireturn, 1, [1], .inl 0, []) else none
        else
         bif Nat.ble 475 pc then
          bif Nat.ble 478 pc then
           bif Nat.ble 481 pc then
            bif Nat.beq pc 481 then some (.iconst 0, 1, [], .inl (0), []) else none
           else
            bif Nat.beq pc 478 then some (.if_icmp .eq 1239, 3, [], .inl 0, []) else none
          else
           bif Nat.beq pc 475 then some (.invokevirtual 48, 3, [171, 4, 1, 6, 12], .inl 0, []) else none
         else
          bif Nat.ble 474 pc then
           bif Nat.beq pc 474 then some (.iaload, 1, [], .inl 0, []) else none
          else
           bif Nat.beq pc 473 then some (.iadd, 1, [], .inl 0, []) else none
       else
        bif Nat.ble 466 pc then
         bif Nat.ble 470 pc then
          bif Nat.ble 471 pc then
           bif Nat.ble 472 pc then
            bif Nat.beq pc 472 then some (.iconst 3, 1, [], .inl (3), []) else none
           else
            bif Nat.beq pc 471 then some (.iload_n 3, 1, [], .inl 0, []) else none
          else
           bif Nat.beq pc 470 then some (.aload_n 0, 1, [], .inl 0, []) else none
         else
          bif Nat.ble 469 pc then
           bif Nat.beq pc 469 then some (.iconst 0, 1, [], .inl (0), []) else none
          else
           bif Nat.beq pc 466 then some (.goto 4, 3, [], .inl 0, []) else none
        else
         bif Nat.ble 462 pc then
          bif Nat.ble 465 pc then
           bif Nat.beq pc 465 then some (.iconst 1, 1, [], .inl (1), []) else none
          else
           bif Nat.beq pc 462 then some (.ifCond .eq 7, 3, [], .inl 0, []) else none
         else
          bif Nat.ble 461 pc then
           bif Nat.beq pc 461 then some (.iaload, 1, [], .inl 0, []) else none
          else
           bif Nat.beq pc 460 then some (.iadd, 1, [], .inl 0, []) else none
    else
     bif Nat.ble 409 pc then
      bif Nat.ble 434 pc then
       bif Nat.ble 448 pc then
        bif Nat.ble 455 pc then
         bif Nat.ble 457 pc then
          bif Nat.ble 458 pc then
           bif Nat.ble 459 pc then
            bif Nat.beq pc 459 then some (.iconst 2, 1, [], .inl (2), []) else none
           else
            bif Nat.beq pc 458 then some (.iload_n 3, 1, [], .inl 0, []) else none
          else
           bif Nat.beq pc 457 then some (.aload_n 0, 1, [], .inl 0, []) else none
         else
          bif Nat.ble 456 pc then
           bif Nat.beq pc 456 then some (.iaload, 1, [], .inl 0, []) else none
          else
           bif Nat.beq pc 455 then some (.iadd, 1, [], .inl 0, []) else none
        else
         bif Nat.ble 452 pc then
          bif Nat.ble 453 pc then
           bif Nat.ble 454 pc then
            bif Nat.beq pc 454 then some (.iconst 1, 1, [], .inl (1), []) else none
           else
            bif Nat.beq pc 453 then some (.iload_n 3, 1, [], .inl 0, []) else none
          else
           bif Nat.beq pc 452 then some (.aload_n 0, 1, [], .inl 0, []) else none
         else
          bif Nat.ble 451 pc then
           bif Nat.beq pc 451 then some (.aload_n 2, 1, [], .inl 0, []) else none
          else
           bif Nat.beq pc 448 then some (.invokevirtual 44, 3, [79, 4, 1, 6, 11], .inl 0, []) else none
       else
        bif Nat.ble 443 pc then
         bif Nat.ble 445 pc then
          bif Nat.ble 446 pc then
           bif Nat.ble 447 pc then
            bif Nat.beq pc 447 then some (.iaload, 1, [], .inl 0, []) else none
           else
            bif Nat.beq pc 446 then some (.iadd, 1, [], .inl 0, []) else none
          else
           bif Nat.beq pc 445 then some (.iconst 3, 1, [], .inl (3), []) else none
         else
          bif Nat.ble 444 pc then
           bif Nat.beq pc 444 then some (.iload_n 3, 1, [], .inl 0, []) else none
          else
           bif Nat.beq pc 443 then some (.aload_n 0, 1, [], .inl 0, []) else none
        else
         bif Nat.ble 438 pc then
          bif Nat.ble 439 pc then
           bif Nat.ble 442 pc then
            bif Nat.beq pc 442 then some (.iconst 0, 1, [], .inl (0), []) else none
           else
            bif Nat.beq pc 439 then some (.goto 4, 3, [], .inl 0, []) else none
          else
           bif Nat.beq pc 438 then some (.iconst 1, 1, [], .inl (1), []) else none
         else
          bif Nat.ble 435 pc then
           bif Nat.beq pc 435 then some (.ifCond .eq 7, 3, [], .inl 0, []) else none
          else
           bif Nat.beq pc 434 then some (.iaload, 1, [], .inl 0, []) else none
      else
       bif Nat.ble 424 pc then
        bif Nat.ble 429 pc then
         bif Nat.ble 431 pc then
          bif Nat.ble 432 pc then
           bif Nat.ble 433 pc then
            bif Nat.beq pc 433 then some (.iadd, 1, [], .inl 0, []) else none
           else
            bif Nat.beq pc 432 then some (.iconst 2, 1, [], .inl (2), []) else none
          else
           bif Nat.beq pc 431 then some (.iload_n 3, 1, [], .inl 0, []) else none
         else
          bif Nat.ble 430 pc then
           bif Nat.beq pc 430 then some (.aload_n 0, 1, [], .inl 0, []) else none
          else
           bif Nat.beq pc 429 then some (.iaload, 1, [], .inl 0, []) else none
        else
         bif Nat.ble 426 pc then
          bif Nat.ble 427 pc then
           bif Nat.ble 428 pc then
            bif Nat.beq pc 428 then some (.iadd, 1, [], .inl 0, []) else none
           else
            bif Nat.beq pc 427 then some (.iconst 1, 1, [], .inl (1), []) else none
          else
           bif Nat.beq pc 426 then some (.iload_n 3, 1, [], .inl 0, []) else none
         else
          bif Nat.ble 425 pc then
           bif Nat.beq pc 425 then some (.aload_n 0, 1, [], .inl 0, []) else none
          else
           bif Nat.beq pc 424 then some (.aload_n 1, 1, [], .inl 0, []) else none
       else
        bif Nat.ble 415 pc then
         bif Nat.ble 419 pc then
          bif Nat.ble 422 pc then
           bif Nat.ble 423 pc then
            bif Nat.beq pc 423 then some (.ireturn, 1, [1], .inl 0, []) else none
           else
            bif Nat.beq pc 422 then some (.iconst 0, 1, [], .inl (0), []) else none
          else
           bif Nat.beq pc 419 then some (.if_icmp .eq 1298, 3, [], .inl 0, []) else none
         else
          bif Nat.ble 416 pc then
           bif Nat.beq pc 416 then some (.invokevirtual 43, 3, [170, 1, 1, 1, 12], .inl 0, []) else none
          else
           bif Nat.beq pc 415 then some (.aload_n 2, 1, [], .inl 0, []) else none
        else
         bif Nat.ble 411 pc then
          bif Nat.ble 412 pc then
           bif Nat.beq pc 412 then some (.invokevirtual 40, 3, [78, 1, 1, 1, 11], .inl 0, []) else none
          else
           bif Nat.beq pc 411 then some (.aload_n 1, 1, [], .inl 0, []) else none
         else
          bif Nat.ble 410 pc then
           bif Nat.beq pc 410 then some (.ireturn, 1, [1], .inl 0, []) else none
          else
           bif Nat.beq pc 409 then some (.iconst 0, 1, [], .inl (0), []) else none
     else
      bif Nat.ble 377 pc then
       bif Nat.ble 391 pc then
        bif Nat.ble 398 pc then
         bif Nat.ble 402 pc then
          bif Nat.ble 403 pc then
           bif Nat.ble 406 pc then
            bif Nat.beq pc 406 then some (.if_icmp .eq 1311, 3, [], .inl 0, []) else none
           else
            bif Nat.beq pc 403 then some (.invokevirtual 39, 3, [169, 3, 1, 4, 12], .inl 0, []) else none
          else
           bif Nat.beq pc 402 then some (.iconst 0, 1, [], .inl (0), []) else none
         else
          bif Nat.ble 399 pc then
           bif Nat.beq pc 399 then some (.goto 4, 3, [], .inl 0, []) else none
          else
           bif Nat.beq pc 398 then some (.iconst 1, 1, [], .inl (1), []) else none
        else
         bif Nat.ble 393 pc then
          bif Nat.ble 394 pc then
           bif Nat.ble 395 pc then
            bif Nat.beq pc 395 then some (.ifCond .eq 7, 3, [], .inl 0, []) else none
           else
            bif Nat.beq pc 394 then some (.iaload, 1, [], .inl 0, []) else none
          else
           bif Nat.beq pc 393 then some (.iadd, 1, [], .inl 0, []) else none
         else
          bif Nat.ble 392 pc then
           bif Nat.beq pc 392 then some (.iconst 2, 1, [], .inl (2), []) else none
          else
           bif Nat.beq pc 391 then some (.iload_n 3, 1, [], .inl 0, []) else none
       else
        bif Nat.ble 386 pc then
         bif Nat.ble 388 pc then
          bif Nat.ble 389 pc then
           bif Nat.ble 390 pc then
            bif Nat.beq pc 390 then some (.aload_n 0, 1, [], .inl 0, []) else none
           else
            bif Nat.beq pc 389 then some (.iaload, 1, [], .inl 0, []) else none
          else
           bif Nat.beq pc 388 then some (.iadd, 1, [], .inl 0, []) else none
         else
          bif Nat.ble 387 pc then
           bif Nat.beq pc 387 then some (.iconst 1, 1, [], .inl (1), []) else none
          else
           bif Nat.beq pc 386 then some (.iload_n 3, 1, [], .inl 0, []) else none
        else
         bif Nat.ble 381 pc then
          bif Nat.ble 384 pc then
           bif Nat.ble 385 pc then
            bif Nat.beq pc 385 then some (.aload_n 0, 1, [], .inl 0, []) else none
           else
            bif Nat.beq pc 384 then some (.aload_n 2, 1, [], .inl 0, []) else none
          else
           bif Nat.beq pc 381 then some (.invokevirtual 35, 3, [77, 3, 1, 5, 11], .inl 0, []) else none
         else
          bif Nat.ble 380 pc then
           bif Nat.beq pc 380 then some (.iconst 0, 1, [], .inl (0), []) else none
          else
           bif Nat.beq pc 377 then some (.goto 4, 3, [], .inl 0, []) else none
      else
       bif Nat.ble 365 pc then
        bif Nat.ble 370 pc then
         bif Nat.ble 372 pc then
          bif Nat.ble 373 pc then
           bif Nat.ble 376 pc then
            bif Nat.beq pc 376 then some (.iconst 1, 1, [], .inl (1), []) else none
           else
            bif Nat.beq pc 373 then some (.ifCond .eq 7, 3, [], .inl 0, []) else none
          else
           bif Nat.beq pc 372 then some (.iaload, 1, [], .inl 0, []) else none
         else
          bif Nat.ble 371 pc then
           bif Nat.beq pc 371 then some (.iadd, 1, [], .inl 0, []) else none
          else
           bif Nat.beq pc 370 then some (.iconst 2, 1, [], .inl (2), []) else none
        else
         bif Nat.ble 367 pc then
          bif Nat.ble 368 pc then
           bif Nat.ble 369 pc then
            bif Nat.beq pc 369 then some (.iload_n 3, 1, [], .inl 0, []) else none
           else
            bif Nat.beq pc 368 then some (.aload_n 0, 1, [], .inl 0, []) else none
          else
           bif Nat.beq pc 367 then some (.iaload, 1, [], .inl 0, []) else none
         else
          bif Nat.ble 366 pc then
           bif Nat.beq pc 366 then some (.iadd, 1, [], .inl 0, []) else none
          else
           bif Nat.beq pc 365 then some (.iconst 1, 1, [], .inl (1), []) else none
       else
        bif Nat.ble 360 pc then
         bif Nat.ble 362 pc then
          bif Nat.ble 363 pc then
           bif Nat.ble 364 pc then
            bif Nat.beq pc 364 then some (.iload_n 3, 1, [], .inl 0, []) else none
           else
            bif Nat.beq pc 363 then some (.aload_n 0, 1, [], .inl 0, []) else none
          else
           bif Nat.beq pc 362 then some (.aload_n 1, 1, [], .inl 0, []) else none
         else
          bif Nat.ble 361 pc then
           bif Nat.beq pc 361 then some (.ireturn, 1, [1], .inl 0, []) else none
          else
           bif Nat.beq pc 360 then some (.iconst 0, 1, [], .inl (0), []) else none
        else
         bif Nat.ble 354 pc then
          bif Nat.ble 357 pc then
           bif Nat.beq pc 357 then some (.if_icmp .eq 1360, 3, [], .inl 0, []) else none
          else
           bif Nat.beq pc 354 then some (.invokevirtual 34, 3, [168, 3, 1, 4, 12], .inl 0, []) else none
         else
          bif Nat.ble 353 pc then
           bif Nat.beq pc 353 then some (.iaload, 1, [], .inl 0, []) else none
          else
           bif Nat.beq pc 352 then some (.iadd, 1, [], .inl 0, []) else none
   else
    bif Nat.ble 256 pc then
     bif Nat.ble 307 pc then
      bif Nat.ble 330 pc then
       bif Nat.ble 340 pc then
        bif Nat.ble 347 pc then
         bif Nat.ble 349 pc then
          bif Nat.ble 350 pc then
           bif Nat.ble 351 pc then
            bif Nat.beq pc 351 then some (.iconst 2, 1, [], .inl (2), []) else none
           else
            bif Nat.beq pc 350 then some (.iload_n 3, 1, [], .inl 0, []) else none
          else
           bif Nat.beq pc 349 then some (.aload_n 0, 1, [], .inl 0, []) else none
         else
          bif Nat.ble 348 pc then
           bif Nat.beq pc 348 then some (.iaload, 1, [], .inl 0, []) else none
          else
           bif Nat.beq pc 347 then some (.iadd, 1, [], .inl 0, []) else none
        else
         bif Nat.ble 344 pc then
          bif Nat.ble 345 pc then
           bif Nat.ble 346 pc then
            bif Nat.beq pc 346 then some (.iconst 1, 1, [], .inl (1), []) else none
           else
            bif Nat.beq pc 345 then some (.iload_n 3, 1, [], .inl 0, []) else none
          else
           bif Nat.beq pc 344 then some (.aload_n 0, 1, [], .inl 0, []) else none
         else
          bif Nat.ble 343 pc then
           bif Nat.beq pc 343 then some (.aload_n 2, 1, [], .inl 0, []) else none
          else
           bif Nat.beq pc 340 then some (.invokevirtual 30, 3, [76, 3, 1, 4, 11], .inl 0, []) else none
       else
        bif Nat.ble 335 pc then
         bif Nat.ble 337 pc then
          bif Nat.ble 338 pc then
           bif Nat.ble 339 pc then
            bif Nat.beq pc 339 then some (.iaload, 1, [], .inl 0, []) else none
           else
            bif Nat.beq pc 338 then some (.iadd, 1, [], .inl 0, []) else none
          else
           bif Nat.beq pc 337 then some (.iconst 2, 1, [], .inl (2), []) else none
         else
          bif Nat.ble 336 pc then
           bif Nat.beq pc 336 then some (.iload_n 3, 1, [], .inl 0, []) else none
          else
           bif Nat.beq pc 335 then some (.aload_n 0, 1, [], .inl 0, []) else none
        else
         bif Nat.ble 332 pc then
          bif Nat.ble 333 pc then
           bif Nat.ble 334 pc then
            bif Nat.beq pc 334 then some (.iaload, 1, [], .inl 0, []) else none
           else
            bif Nat.beq pc 333 then some (.iadd, 1, [], .inl 0, []) else none
          else
           bif Nat.beq pc 332 then some (.iconst 1, 1, [], .inl (1), []) else none
         else
          bif Nat.ble 331 pc then
           bif Nat.beq pc 331 then some (.iload_n 3, 1, [], .inl 0, []) else none
          else
           bif Nat.beq pc 330 then some (.aload_n 0, 1, [], .inl 0, []) else none
      else
       bif Nat.ble 316 pc then
        bif Nat.ble 321 pc then
         bif Nat.ble 327 pc then
          bif Nat.ble 328 pc then
           bif Nat.ble 329 pc then
            bif Nat.beq pc 329 then some (.aload_n 1, 1, [], .inl 0, []) else none
           else
            bif Nat.beq pc 328 then some (.ireturn, 1, [1], .inl 0, []) else none
          else
           bif Nat.beq pc 327 then some (.iconst 0, 1, [], .inl (0), []) else none
         else
          bif Nat.ble 324 pc then
           bif Nat.beq pc 324 then some (.if_icmp .eq 1393, 3, [], .inl 0, []) else none
          else
           bif Nat.beq pc 321 then some (.invokevirtual 29, 3, [167, 4, 1, 7, 12], .inl 0, []) else none
        else
         bif Nat.ble 318 pc then
          bif Nat.ble 319 pc then
           bif Nat.ble 320 pc then
            bif Nat.beq pc 320 then some (.iaload, 1, [], .inl 0, []) else none
           else
            bif Nat.beq pc 319 then some (.iadd, 1, [], .inl 0, []) else none
          else
           bif Nat.beq pc 318 then some (.iconst 3, 1, [], .inl (3), []) else none
         else
          bif Nat.ble 317 pc then
           bif Nat.beq pc 317 then some (.iload_n 3, 1, [], .inl 0, []) else none
          else
           bif Nat.beq pc 316 then some (.aload_n 0, 1, [], .inl 0, []) else none
       else
        bif Nat.ble 311 pc then
         bif Nat.ble 313 pc then
          bif Nat.ble 314 pc then
           bif Nat.ble 315 pc then
            bif Nat.beq pc 315 then some (.iaload, 1, [], .inl 0, []) else none
           else
            bif Nat.beq pc 314 then some (.iadd, 1, [], .inl 0, []) else none
          else
           bif Nat.beq pc 313 then some (.iconst 2, 1, [], .inl (2), []) else none
         else
          bif Nat.ble 312 pc then
           bif Nat.beq pc 312 then some (.iload_n 3, 1, [], .inl 0, []) else none
          else
           bif Nat.beq pc 311 then some (.aload_n 0, 1, [], .inl 0, []) else none
        else
         bif Nat.ble 309 pc then
          bif Nat.ble 310 pc then
           bif Nat.beq pc 310 then some (.iaload, 1, [], .inl 0, []) else none
          else
           bif Nat.beq pc 309 then some (.iadd, 1, [], .inl 0, []) else none
         else
          bif Nat.ble 308 pc then
           bif Nat.beq pc 308 then some (.iconst 1, 1, [], .inl (1), []) else none
          else
           bif Nat.beq pc 307 then some (.iload_n 3, 1, [], .inl 0, []) else none
     else
      bif Nat.ble 285 pc then
       bif Nat.ble 295 pc then
        bif Nat.ble 300 pc then
         bif Nat.ble 302 pc then
          bif Nat.ble 305 pc then
           bif Nat.ble 306 pc then
            bif Nat.beq pc 306 then some (.aload_n 0, 1, [], .inl 0, []) else none
           else
            bif Nat.beq pc 305 then some (.aload_n 2, 1, [], .inl 0, []) else none
          else
           bif Nat.beq pc 302 then some (.invokevirtual 25, 3, [75, 4, 1, 7, 11], .inl 0, []) else none
         else
          bif Nat.ble 301 pc then
           bif Nat.beq pc 301 then some (.iaload, 1, [], .inl 0, []) else none
          else
           bif Nat.beq pc 300 then some (.iadd, 1, [], .inl 0, []) else none
        else
         bif Nat.ble 297 pc then
          bif Nat.ble 298 pc then
           bif Nat.ble 299 pc then
            bif Nat.beq pc 299 then some (.iconst 3, 1, [], .inl (3), []) else none
           else
            bif Nat.beq pc 298 then some (.iload_n 3, 1, [], .inl 0, []) else none
          else
           bif Nat.beq pc 297 then some (.aload_n 0, 1, [], .inl 0, []) else none
         else
          bif Nat.ble 296 pc then
           bif Nat.beq pc 296 then some (.iaload, 1, [], .inl 0, []) else none
          else
           bif Nat.beq pc 295 then some (.iadd, 1, [], .inl 0, []) else none
       else
        bif Nat.ble 290 pc then
         bif Nat.ble 292 pc then
          bif Nat.ble 293 pc then
           bif Nat.ble 294 pc then
            bif Nat.beq pc 294 then some (.iconst 2, 1, [], .inl (2), []) else none
           else
            bif Nat.beq pc 293 then some (.iload_n 3, 1, [], .inl 0, []) else none
          else
           bif Nat.beq pc 292 then some (.aload_n 0, 1, [], .inl 0, []) else none
         else
          bif Nat.ble 291 pc then
           bif Nat.beq pc 291 then some (.iaload, 1, [], .inl 0, []) else none
          else
           bif Nat.beq pc 290 then some (.iadd, 1, [], .inl 0, []) else none
        else
         bif Nat.ble 287 pc then
          bif Nat.ble 288 pc then
           bif Nat.ble 289 pc then
            bif Nat.beq pc 289 then some (.iconst 1, 1, [], .inl (1), []) else none
           else
            bif Nat.beq pc 288 then some (.iload_n 3, 1, [], .inl 0, []) else none
          else
           bif Nat.beq pc 287 then some (.aload_n 0, 1, [], .inl 0, []) else none
         else
          bif Nat.ble 286 pc then
           bif Nat.beq pc 286 then some (.aload_n 1, 1, [], .inl 0, []) else none
          else
           bif Nat.beq pc 285 then some (.ireturn, 1, [1], .inl 0, []) else none
      else
       bif Nat.ble 267 pc then
        bif Nat.ble 274 pc then
         bif Nat.ble 278 pc then
          bif Nat.ble 281 pc then
           bif Nat.ble 284 pc then
            bif Nat.beq pc 284 then some (.iconst 0, 1, [], .inl (0), []) else none
           else
            bif Nat.beq pc 281 then some (.if_icmp .eq 1436, 3, [], .inl 0, []) else none
          else
           bif Nat.beq pc 278 then some (.invokevirtual 24, 3, [166, 4, 1, 5, 12], .inl 0, []) else none
         else
          bif Nat.ble 277 pc then
           bif Nat.beq pc 277 then some (.iconst 0, 1, [], .inl (0), []) else none
          else
           bif Nat.beq pc 274 then some (.goto 4, 3, [], .inl 0, []) else none
        else
         bif Nat.ble 269 pc then
          bif Nat.ble 270 pc then
           bif Nat.ble 273 pc then
            bif Nat.beq pc 273 then some (.iconst 1, 1, [], .inl (1), []) else none
           else
            bif Nat.beq pc 270 then some (.ifCond .eq 7, 3, [], .inl 0, []) else none
          else
           bif Nat.beq pc 269 then some (.iaload, 1, [], .inl 0, []) else none
         else
          bif Nat.ble 268 pc then
           bif Nat.beq pc 268 then some (.iadd, 1, [], .inl 0, []) else none
          else
           bif Nat.beq pc 267 then some (.iconst 4, 1, [], .inl (4), []) else none
       else
        bif Nat.ble 260 pc then
         bif Nat.ble 264 pc then
          bif Nat.ble 265 pc then
           bif Nat.ble 266 pc then
            bif Nat.beq pc 266 then some (.iload_n 3, 1, [], .inl 0, []) else none
           else
            bif Nat.beq pc 265 then some (.aload_n 0, 1, [], .inl 0, []) else none
          else
           bif Nat.beq pc 264 then some (.lor, 1, [], .inl 0, []) else none
         else
          bif Nat.ble 263 pc then
           bif Nat.beq pc 263 then some (.land, 1, [], .inl 0, []) else none
          else
           bif Nat.beq pc 260 then some (.ldc2_w 18, 3, [], .inr (.inl (4294967295)), []) else none
        else
         bif Nat.ble 258 pc then
          bif Nat.ble 259 pc then
           bif Nat.beq pc 259 then some (.i2l, 1, [], .inl 0, []) else none
          else
           bif Nat.beq pc 258 then some (.iaload, 1, [], .inl 0, []) else none
         else
          bif Nat.ble 257 pc then
           bif Nat.beq pc 257 then some (.iadd, 1, [], .inl 0, []) else none
          else
           bif Nat.beq pc 256 then some (.iconst 3, 1, [], .inl (3), []) else none
    else
     bif Nat.ble 207 pc then
      bif Nat.ble 231 pc then
       bif Nat.ble 245 pc then
        bif Nat.ble 250 pc then
         bif Nat.ble 253 pc then
          bif Nat.ble 254 pc then
           bif Nat.ble 255 pc then
            bif Nat.beq pc 255 then some (.iload_n 3, 1, [], .inl 0, []) else none
           else
            bif Nat.beq pc 254 then some (.aload_n 0, 1, [], .inl 0, []) else none
          else
           bif Nat.beq pc 253 then some (.lshl, 1, [], .inl 0, []) else none
         else
          bif Nat.ble 251 pc then
           bif Nat.beq pc 251 then some (.bipush 32, 2, [], .inl (32), []) else none
          else
           bif Nat.beq pc 250 then some (.i2l, 1, [], .inl 0, []) else none
        else
         bif Nat.ble 247 pc then
          bif Nat.ble 248 pc then
           bif Nat.ble 249 pc then
            bif Nat.beq pc 249 then some (.iaload, 1, [], .inl 0, []) else none
           else
            bif Nat.beq pc 248 then some (.iadd, 1, [], .inl 0, []) else none
          else
           bif Nat.beq pc 247 then some (.iconst 2, 1, [], .inl (2), []) else none
         else
          bif Nat.ble 246 pc then
           bif Nat.beq pc 246 then some (.iload_n 3, 1, [], .inl 0, []) else none
          else
           bif Nat.beq pc 245 then some (.aload_n 0, 1, [], .inl 0, []) else none
       else
        bif Nat.ble 240 pc then
         bif Nat.ble 242 pc then
          bif Nat.ble 243 pc then
           bif Nat.ble 244 pc then
            bif Nat.beq pc 244 then some (.iaload, 1, [], .inl 0, []) else none
           else
            bif Nat.beq pc 243 then some (.iadd, 1, [], .inl 0, []) else none
          else
           bif Nat.beq pc 242 then some (.iconst 1, 1, [], .inl (1), []) else none
         else
          bif Nat.ble 241 pc then
           bif Nat.beq pc 241 then some (.iload_n 3, 1, [], .inl 0, []) else none
          else
           bif Nat.beq pc 240 then some (.aload_n 0, 1, [], .inl 0, []) else none
        else
         bif Nat.ble 235 pc then
          bif Nat.ble 236 pc then
           bif Nat.ble 239 pc then
            bif Nat.beq pc 239 then some (.aload_n 2, 1, [], .inl 0, []) else none
           else
            bif Nat.beq pc 236 then some (.invokevirtual 20, 3, [74, 4, 1, 6, 11], .inl 0, []) else none
          else
           bif Nat.beq pc 235 then some (.iconst 0, 1, [], .inl (0), []) else none
         else
          bif Nat.ble 232 pc then
           bif Nat.beq pc 232 then some (.goto 4, 3, [], .inl 0, []) else none
          else
           bif Nat.beq pc 231 then some (.iconst 1, 1, [], .inl (1), []) else none
      else
       bif Nat.ble 217 pc then
        bif Nat.ble 224 pc then
         bif Nat.ble 226 pc then
          bif Nat.ble 227 pc then
           bif Nat.ble 228 pc then
            bif Nat.beq pc 228 then some (.ifCond .eq 7, 3, [], .inl 0, []) else none
           else
            bif Nat.beq pc 227 then some (.iaload, 1, [], .inl 0, []) else none
          else
           bif Nat.beq pc 226 then some (.iadd, 1, [], .inl 0, []) else none
         else
          bif Nat.ble 225 pc then
           bif Nat.beq pc 225 then some (.iconst 4, 1, [], .inl (4), []) else none
          else
           bif Nat.beq pc 224 then some (.iload_n 3, 1, [], .inl 0, []) else none
        else
         bif Nat.ble 221 pc then
          bif Nat.ble 222 pc then
           bif Nat.ble 223 pc then
            bif Nat.beq pc 223 then some (.aload_n 0, 1, [], .inl 0, []) else none
           else
            bif Nat.beq pc 222 then some (.lor, 1, [], .inl 0, []) else none
          else
           bif Nat.beq pc 221 then some (.land, 1, [], .inl 0, []) else none
         else
          bif Nat.ble 218 pc then
           bif Nat.beq pc 218 then some (.ldc2_w 18, 3, [], .inr (.inl (4294967295)), []) else none
          else
           bif Nat.beq pc 217 then some (.i2l, 1, [], .inl 0, []) else none
       else
        bif Nat.ble 212 pc then
         bif Nat.ble 214 pc then
          bif Nat.ble 215 pc then
           bif Nat.ble 216 pc then
            bif Nat.beq pc 216 then some (.iaload, 1, [], .inl 0, []) else none
           else
            bif Nat.beq pc 215 then some (.iadd, 1, [], .inl 0, []) else none
          else
           bif Nat.beq pc 214 then some (.iconst 3, 1, [], .inl (3), []) else none
         else
          bif Nat.ble 213 pc then
           bif Nat.beq pc 213 then some (.iload_n 3, 1, [], .inl 0, []) else none
          else
           bif Nat.beq pc 212 then some (.aload_n 0, 1, [], .inl 0, []) else none
        else
         bif Nat.ble 209 pc then
          bif Nat.ble 211 pc then
           bif Nat.beq pc 211 then some (.lshl, 1, [], .inl 0, []) else none
          else
           bif Nat.beq pc 209 then some (.bipush 32, 2, [], .inl (32), []) else none
         else
          bif Nat.ble 208 pc then
           bif Nat.beq pc 208 then some (.i2l, 1, [], .inl 0, []) else none
          else
           bif Nat.beq pc 207 then some (.iaload, 1, [], .inl 0, []) else none
     else
      bif Nat.ble 30 pc then
       bif Nat.ble 197 pc then
        bif Nat.ble 202 pc then
         bif Nat.ble 204 pc then
          bif Nat.ble 205 pc then
           bif Nat.ble 206 pc then
            bif Nat.beq pc 206 then some (.iadd, 1, [], .inl 0, []) else none
           else
            bif Nat.beq pc 205 then some (.iconst 2, 1, [], .inl (2), []) else none
          else
           bif Nat.beq pc 204 then some (.iload_n 3, 1, [], .inl 0, []) else none
         else
          bif Nat.ble 203 pc then
           bif Nat.beq pc 203 then some (.aload_n 0, 1, [], .inl 0, []) else none
          else
           bif Nat.beq pc 202 then some (.iaload, 1, [], .inl 0, []) else none
        else
         bif Nat.ble 199 pc then
          bif Nat.ble 200 pc then
           bif Nat.ble 201 pc then
            bif Nat.beq pc 201 then some (.iadd, 1, [], .inl 0, []) else none
           else
            bif Nat.beq pc 200 then some (.iconst 1, 1, [], .inl (1), []) else none
          else
           bif Nat.beq pc 199 then some (.iload_n 3, 1, [], .inl 0, []) else none
         else
          bif Nat.ble 198 pc then
           bif Nat.beq pc 198 then some (.aload_n 0, 1, [], .inl 0, []) else none
          else
           bif Nat.beq pc 197 then some (.aload_n 1, 1, [], .inl 0, []) else none
       else
        bif Nat.ble 188 pc then
         bif Nat.ble 192 pc then
          bif Nat.ble 195 pc then
           bif Nat.ble 196 pc then
            bif Nat.beq pc 196 then some (.ireturn, 1, [1], .inl 0, []) else none
           else
            bif Nat.beq pc 195 then some (.iconst 0, 1, [], .inl (0), []) else none
          else
           bif Nat.beq pc 192 then some (.if_icmp .eq 1525, 3, [], .inl 0, []) else none
         else
          bif Nat.ble 189 pc then
           bif Nat.beq pc 189 then some (.invokevirtual 17, 3, [164, 1, 1, 1, 12], .inl 0, []) else none
          else
           bif Nat.beq pc 188 then some (.aload_n 2, 1, [], .inl 0, []) else none
        else
         bif Nat.ble 33 pc then
          bif Nat.ble 184 pc then
           bif Nat.ble 185 pc then
            bif Nat.beq pc 185 then some (.invokevirtual 13, 3, [73, 1, 1, 1, 11], .inl 0, []) else none
           else
            bif Nat.beq pc 184 then some (.aload_n 1, 1, [], .inl 0, []) else none
          else
           bif Nat.beq pc 33 then some (.tableswitch 1684 0 33 #[151, 164, 253, 296, 329, 378, 391, 450, 463, 590, 623, 676, 803, 816, 849, 922, 956, 979, 1042, 1065, 1088, 1122, 1145, 1178, 1211, 1274, 1328, 1351, 1374, 1397, 1430, 1533, 1628, 1651], 151, [], .inl 0, []) else none
         else
          bif Nat.ble 32 pc then
           bif Nat.beq pc 32 then some (.iand, 1, [], .inl 0, []) else none
          else
           bif Nat.beq pc 30 then some (.bipush 63, 2, [], .inl (63), []) else none
      else
       bif Nat.ble 17 pc then
        bif Nat.ble 23 pc then
         bif Nat.ble 27 pc then
          bif Nat.ble 28 pc then
           bif Nat.ble 29 pc then
            bif Nat.beq pc 29 then some (.iaload, 1, [], .inl 0, []) else none
           else
            bif Nat.beq pc 28 then some (.iload_n 3, 1, [], .inl 0, []) else none
          else
           bif Nat.beq pc 27 then some (.aload_n 0, 1, [], .inl 0, []) else none
         else
          bif Nat.ble 24 pc then
           bif Nat.beq pc 24 then some (.if_icmp .gt 1699, 3, [], .inl 0, []) else none
          else
           bif Nat.beq pc 23 then some (.isub, 1, [], .inl 0, []) else none
        else
         bif Nat.ble 19 pc then
          bif Nat.ble 20 pc then
           bif Nat.ble 21 pc then
            bif Nat.beq pc 21 then some (.bipush 8, 2, [], .inl (8), []) else none
           else
            bif Nat.beq pc 20 then some (.arraylength, 1, [], .inl 0, []) else none
          else
           bif Nat.beq pc 19 then some (.aload_n 0, 1, [], .inl 0, []) else none
         else
          bif Nat.ble 18 pc then
           bif Nat.beq pc 18 then some (.iload_n 3, 1, [], .inl 0, []) else none
          else
           bif Nat.beq pc 17 then some (.istore_n 3, 1, [], .inl 0, []) else none
       else
        bif Nat.ble 8 pc then
         bif Nat.ble 12 pc then
          bif Nat.ble 15 pc then
           bif Nat.ble 16 pc then
            bif Nat.beq pc 16 then some (.iconst 0, 1, [], .inl (0), []) else none
           else
            bif Nat.beq pc 15 then some (.astore_n 2, 1, [], .inl 0, []) else none
          else
           bif Nat.beq pc 12 then some (.invokespecial 12, 3, [156, 1, 0, 1, 12], .inl 0, []) else none
         else
          bif Nat.ble 11 pc then
           bif Nat.beq pc 11 then some (.dup, 1, [], .inl 0, []) else none
          else
           bif Nat.beq pc 8 then some (.new 10, 3, [12, 63], .inl 0, []) else none
        else
         bif Nat.ble 4 pc then
          bif Nat.ble 7 pc then
           bif Nat.beq pc 7 then some (.astore_n 1, 1, [], .inl 0, []) else none
          else
           bif Nat.beq pc 4 then some (.invokespecial 9, 3, [72, 1, 0, 1, 11], .inl 0, []) else none
         else
          bif Nat.ble 3 pc then
           bif Nat.beq pc 3 then some (.dup, 1, [], .inl 0, []) else none
          else
           bif Nat.beq pc 0 then some (.new 7, 3, [11, 19], .inl 0, []) else none
def PP : Prg := fun y => bif Nat.ble 232 y then (fun _ => none) else
 bif Nat.ble 116 y then
  bif Nat.ble 174 y then
   bif Nat.ble 203 y then
    bif Nat.ble 217 y then
     bif Nat.ble 224 y then
      bif Nat.ble 228 y then
       bif Nat.ble 230 y then
        bif Nat.ble 231 y then
         kL_law
        else
         kX12_about
       else
        bif Nat.ble 229 y then
         kX12_count
        else
         kX12_range
      else
       bif Nat.ble 226 y then
        bif Nat.ble 227 y then
         kX12_word
        else
         kX12_found
       else
        bif Nat.ble 225 y then
         kX12_has
        else
         kX12_line
     else
      bif Nat.ble 220 y then
       bif Nat.ble 222 y then
        bif Nat.ble 223 y then
         kX12_comes
        else
         kX12_load
       else
        bif Nat.ble 221 y then
         kX12_bringRow
        else
         kX12_bringSet
      else
       bif Nat.ble 218 y then
        bif Nat.ble 219 y then
         kX12_brings
        else
         kX12_keptPart
       else
        kX12_widened
    else
     bif Nat.ble 210 y then
      bif Nat.ble 213 y then
       bif Nat.ble 215 y then
        bif Nat.ble 216 y then
         kX12_goes
        else
         kX12_writeValue
       else
        bif Nat.ble 214 y then
         kX12_write
        else
         kX12_keep
      else
       bif Nat.ble 211 y then
        bif Nat.ble 212 y then
         kX12_unkept
        else
         kX12_work
       else
        kX12_once
     else
      bif Nat.ble 206 y then
       bif Nat.ble 208 y then
        bif Nat.ble 209 y then
         kX12_named
        else
         kX12_same
       else
        bif Nat.ble 207 y then
         kX12_areLike
        else
         kX12_tag
      else
       bif Nat.ble 204 y then
        bif Nat.ble 205 y then
         kX12_of
        else
         kX12_told
       else
        kX12_cause
   else
    bif Nat.ble 188 y then
     bif Nat.ble 195 y then
      bif Nat.ble 199 y then
       bif Nat.ble 201 y then
        bif Nat.ble 202 y then
         kX12_make
        else
         kX12_isBetween
       else
        bif Nat.ble 200 y then
         kX12_checked
        else
         kX12_made
      else
       bif Nat.ble 197 y then
        bif Nat.ble 198 y then
         kX12_caused
        else
         kX12_isGood
       else
        bif Nat.ble 196 y then
         kX12_isObject
        else
         kX12_give
     else
      bif Nat.ble 191 y then
       bif Nat.ble 193 y then
        bif Nat.ble 194 y then
         kX12_size
        else
         kX12_item
       else
        bif Nat.ble 192 y then
         kX12_put
        else
         kX12_isRow
      else
       bif Nat.ble 189 y then
        bif Nat.ble 190 y then
         kX12_row
        else
         kX12_newRow
       else
        kX12_started
    else
     bif Nat.ble 181 y then
      bif Nat.ble 184 y then
       bif Nat.ble 186 y then
        bif Nat.ble 187 y then
         kX12_start
        else
         kX12_build
       else
        bif Nat.ble 185 y then
         kX12_check
        else
         kX12_isCheck
      else
       bif Nat.ble 182 y then
        bif Nat.ble 183 y then
         kX12_becomes
        else
         kX12_without
       else
        kX12_dropChecks
     else
      bif Nat.ble 177 y then
       bif Nat.ble 179 y then
        bif Nat.ble 180 y then
         kX12_setSort
        else
         kX12_part
       else
        bif Nat.ble 178 y then
         kX12_partNamed
        else
         kX12_fromBits
      else
       bif Nat.ble 175 y then
        bif Nat.ble 176 y then
         kX12_isSort
        else
         kX12_record
       else
        kX12_isOfFamily
  else
   bif Nat.ble 145 y then
    bif Nat.ble 159 y then
     bif Nat.ble 166 y then
      bif Nat.ble 170 y then
       bif Nat.ble 172 y then
        bif Nat.ble 173 y then
         kX12_tagOf
        else
         kX12_findLeaves
       else
        bif Nat.ble 171 y then
         kX12_permit
        else
         kX12_family
      else
       bif Nat.ble 168 y then
        bif Nat.ble 169 y then
         kX12_fails
        else
         kX12_forget
       else
        bif Nat.ble 167 y then
         kX12_exchange
        else
         kX12_constant
     else
      bif Nat.ble 162 y then
       bif Nat.ble 164 y then
        bif Nat.ble 165 y then
         kX12_ordinal
        else
         kX12_enumeration
       else
        bif Nat.ble 163 y then
         kX12_isFamily
        else
         kX12_isPart
      else
       bif Nat.ble 160 y then
        bif Nat.ble 161 y then
         kX12_isRecord
        else
         kX12_isConstant
       else
        kX12_isEnum
    else
     bif Nat.ble 152 y then
      bif Nat.ble 155 y then
       bif Nat.ble 157 y then
        bif Nat.ble 158 y then
         kX12_isName
        else
         kX12_in
       else
        bif Nat.ble 156 y then
         kX12_init
        else
         kX11_foundLine
      else
       bif Nat.ble 153 y then
        bif Nat.ble 154 y then
         kX11_objectNow
        else
         kX11_rowNow
       else
        kX11_setNow
     else
      bif Nat.ble 148 y then
       bif Nat.ble 150 y then
        bif Nat.ble 151 y then
         kX11_ordinalNow
        else
         kX11_thrownByFilling
       else
        bif Nat.ble 149 y then
         kX11_valueNow
        else
         kX11_fillPart
      else
       bif Nat.ble 146 y then
        bif Nat.ble 147 y then
         kX11_lineAhead
        else
         kX11_loadInOrder
       else
        kX11_namesOf
   else
    bif Nat.ble 130 y then
     bif Nat.ble 137 y then
      bif Nat.ble 141 y then
       bif Nat.ble 143 y then
        bif Nat.ble 144 y then
         kX11_lineOf
        else
         kX11_keptRow
       else
        bif Nat.ble 142 y then
         kX11_keptPart
        else
         kX11_addLine
      else
       bif Nat.ble 139 y then
        bif Nat.ble 140 y then
         kX11_firstPartToKeep
        else
         kX11_keepInOrder
       else
        bif Nat.ble 138 y then
         kX11_wantParts
        else
         kX11_countToKeep
     else
      bif Nat.ble 133 y then
       bif Nat.ble 135 y then
        bif Nat.ble 136 y then
         kX11_twinOf
        else
         kX11_areAlike
       else
        bif Nat.ble 134 y then
         kX11_firstAlike
        else
         kX11_findTwins
      else
       bif Nat.ble 131 y then
        bif Nat.ble 132 y then
         kX11_addObject
        else
         kX11_thrownByLaying
       else
        kX11_thrownByCast
    else
     bif Nat.ble 123 y then
      bif Nat.ble 126 y then
       bif Nat.ble 128 y then
        bif Nat.ble 129 y then
         kX11_thrownByItem
        else
         kX11_thrownBy
       else
        bif Nat.ble 127 y then
         kX11_failed
        else
         kX11_construct
      else
       bif Nat.ble 124 y then
        bif Nat.ble 125 y then
         kX11_isOfFamily
        else
         kX11_enumerationHolds
       else
        kX11_isOrdinal
     else
      bif Nat.ble 119 y then
       bif Nat.ble 121 y then
        bif Nat.ble 122 y then
         kX11_fits
        else
         kX11_draftFits
       else
        bif Nat.ble 120 y then
         kX11_addRow
        else
         kX11_startFor
      else
       bif Nat.ble 117 y then
        bif Nat.ble 118 y then
         kX11_noteStart
        else
         kX11_startEnumeration
       else
        kX11_startRecord
 else
  bif Nat.ble 58 y then
   bif Nat.ble 87 y then
    bif Nat.ble 101 y then
     bif Nat.ble 108 y then
      bif Nat.ble 112 y then
       bif Nat.ble 114 y then
        bif Nat.ble 115 y then
         kX11_gatherLeaves
        else
         kX11_isSort
       else
        bif Nat.ble 113 y then
         kX11_answerOf
        else
         kX11_lineAt
      else
       bif Nat.ble 110 y then
        bif Nat.ble 111 y then
         kX11_objectAt
        else
         kX11_rowAt
       else
        bif Nat.ble 109 y then
         kX11_familyAt
        else
         kX11_recordAt
     else
      bif Nat.ble 104 y then
       bif Nat.ble 106 y then
        bif Nat.ble 107 y then
         kX11_enumerationAt
        else
         kX11_about
       else
        bif Nat.ble 105 y then
         kX11_count
        else
         kX11_range
      else
       bif Nat.ble 102 y then
        bif Nat.ble 103 y then
         kX11_word
        else
         kX11_line
       else
        kX11_load
    else
     bif Nat.ble 94 y then
      bif Nat.ble 97 y then
       bif Nat.ble 99 y then
        bif Nat.ble 100 y then
         kX11_keep
        else
         kX11_started
       else
        bif Nat.ble 98 y then
         kX11_work
        else
         kX11_named
      else
       bif Nat.ble 95 y then
        bif Nat.ble 96 y then
         kX11_same
        else
         kX11_tag
       else
        kX11_of
     else
      bif Nat.ble 90 y then
       bif Nat.ble 92 y then
        bif Nat.ble 93 y then
         kX11_told
        else
         kX11_cause
       else
        bif Nat.ble 91 y then
         kX11_make
        else
         kX11_give
      else
       bif Nat.ble 88 y then
        bif Nat.ble 89 y then
         kX11_size
        else
         kX11_item
       else
        kX11_put
   else
    bif Nat.ble 72 y then
     bif Nat.ble 79 y then
      bif Nat.ble 83 y then
       bif Nat.ble 85 y then
        bif Nat.ble 86 y then
         kX11_row
        else
         kX11_build
       else
        bif Nat.ble 84 y then
         kX11_check
        else
         kX11_becomes
      else
       bif Nat.ble 81 y then
        bif Nat.ble 82 y then
         kX11_without
        else
         kX11_part
       else
        bif Nat.ble 80 y then
         kX11_record
        else
         kX11_permit
     else
      bif Nat.ble 75 y then
       bif Nat.ble 77 y then
        bif Nat.ble 78 y then
         kX11_family
        else
         kX11_fails
       else
        bif Nat.ble 76 y then
         kX11_forget
        else
         kX11_exchange
      else
       bif Nat.ble 73 y then
        bif Nat.ble 74 y then
         kX11_constant
        else
         kX11_enumeration
       else
        kX11_init
    else
     bif Nat.ble 65 y then
      bif Nat.ble 68 y then
       bif Nat.ble 70 y then
        bif Nat.ble 71 y then
         kX10_hasItem
        else
         kX10_reuse
       else
        bif Nat.ble 69 y then
         kX10_init
        else
         kX9_moveChecks
      else
       bif Nat.ble 66 y then
        bif Nat.ble 67 y then
         kX9_dropChecks
        else
         kX9_hasPart
       else
        kX9_partAt
     else
      bif Nat.ble 61 y then
       bif Nat.ble 63 y then
        bif Nat.ble 64 y then
         kX9_init
        else
         kX8_init
       else
        bif Nat.ble 62 y then
         kX7_init
        else
         kX6_unload
      else
       bif Nat.ble 59 y then
        bif Nat.ble 60 y then
         kX6_keptAs
        else
         kX6_init
       else
        kX5_goesTo
  else
   bif Nat.ble 29 y then
    bif Nat.ble 43 y then
     bif Nat.ble 50 y then
      bif Nat.ble 54 y then
       bif Nat.ble 56 y then
        bif Nat.ble 57 y then
         kX5_hasOrdinal
        else
         kX5_hasWord
       else
        bif Nat.ble 55 y then
         kX5_hasNames
        else
         kX5_init
      else
       bif Nat.ble 52 y then
        bif Nat.ble 53 y then
         kX4_addLeavesOf
        else
         kX4_addLeaf
       else
        bif Nat.ble 51 y then
         kX4_tagOf
        else
         kX4_hasMember
     else
      bif Nat.ble 46 y then
       bif Nat.ble 48 y then
        bif Nat.ble 49 y then
         kX4_init
        else
         kX3_rest
       else
        bif Nat.ble 47 y then
         kX3_ordinalOf
        else
         kX3_constantAt
      else
       bif Nat.ble 44 y then
        bif Nat.ble 45 y then
         kX3_init
        else
         kX2_twice
       else
        kX2_once
    else
     bif Nat.ble 36 y then
      bif Nat.ble 39 y then
       bif Nat.ble 41 y then
        bif Nat.ble 42 y then
         kX2_init
        else
         kX1_init
       else
        bif Nat.ble 40 y then
         kX0_doubleOfFloat
        else
         kX0_nearestEven
      else
       bif Nat.ble 37 y then
        bif Nat.ble 38 y then
         kX0_sizeOfWhole
        else
         kX0_doubleOfWhole
       else
        kX0_floatOfWhole
     else
      bif Nat.ble 32 y then
       bif Nat.ble 34 y then
        bif Nat.ble 35 y then
         kX0_place
        else
         kX0_isBetween
       else
        bif Nat.ble 33 y then
         kX0_widened
        else
         kX0_isNumber
      else
       bif Nat.ble 30 y then
        bif Nat.ble 31 y then
         kX0_shaped
        else
         kX0_isName
       else
        kJ3_checkIndex_8e157
   else
    bif Nat.ble 14 y then
     bif Nat.ble 21 y then
      bif Nat.ble 25 y then
       bif Nat.ble 27 y then
        bif Nat.ble 28 y then
         kJ8_hugeLength_7cf53
        else
         kJ8_newLength_cabcc
       else
        bif Nat.ble 26 y then
         kJ15_checkIndex_7cf53
        else
         kJ7_copyOf_c38d5
      else
       bif Nat.ble 23 y then
        bif Nat.ble 24 y then
         kJ7_copyOf_6403c
        else
         kJ7_copyOf_1904c
       else
        bif Nat.ble 22 y then
         kJ7_fill_d0a16
        else
         kJx4a65c_fastRemove_b59b0
     else
      bif Nat.ble 17 y then
       bif Nat.ble 19 y then
        bif Nat.ble 20 y then
         kJx4a65c_remove_915e3
        else
         kJx4a65c_add_9ea2d
       else
        bif Nat.ble 18 y then
         kJx4a65c_add_72be8
        else
         kJx4a65c_set_bcc79
      else
       bif Nat.ble 15 y then
        bif Nat.ble 16 y then
         kJx4a65c_get_915e3
        else
         kJx4a65c_elementData_915e3
       else
        kJx4a65c_size_8abf5
    else
     bif Nat.ble 7 y then
      bif Nat.ble 10 y then
       bif Nat.ble 12 y then
        bif Nat.ble 13 y then
         kJx4a65c_grow_d5877
        else
         kJx4a65c_grow_92f84
       else
        bif Nat.ble 11 y then
         kJx4a65c_init_da8c8
        else
         kJxc12de_init_da8c8
      else
       bif Nat.ble 8 y then
        bif Nat.ble 9 y then
         kJxa1e45_init_da8c8
        else
         kJ9_min_7cf53
       else
        kJ9_max_7cf53
     else
      bif Nat.ble 3 y then
       bif Nat.ble 5 y then
        bif Nat.ble 6 y then
         kJ13_bitCount_95d88
        else
         kJ13_numberOfLeadingZeros_95d88
       else
        bif Nat.ble 4 y then
         kJ6_numberOfLeadingZeros_0f7a4
        else
         kJxf58ca_floatToIntBits_5c35a
      else
       bif Nat.ble 1 y then
        bif Nat.ble 2 y then
         kJxf58ca_isNaN_12338
        else
         kJxe99ae_doubleToLongBits_ccdee
       else
        kJxe99ae_isNaN_b9ae7
noncomputable abbrev ex (z mx : Nat) (as : List PV) (M : Mem) : Option Rt := rn PP z 0 (ent as mx) [] M
